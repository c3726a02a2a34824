theorem dX6_fromFalsum_17 : decode cX6_fromFalsum 17 = .ok (.getfield 15, 3) := by decide +kernel
theorem dX6_fromFalsum_20 : decode cX6_fromFalsum 20 = .ok (.aload_n 0, 1) := by decide +kernel
theorem dX6_fromFalsum_21 : decode cX6_fromFalsum 21 = .ok (.getfield 21, 3) := by decide +kernel
theorem dX6_fromFalsum_24 : decode cX6_fromFalsum 24 = .ok (.iload_n 1, 1) := by decide +kernel
theorem dX6_fromFalsum_25 : decode cX6_fromFalsum 25 = .ok (.invokevirtual 128, 3) := by decide +kernel
theorem dX6_fromFalsum_28 : decode cX6_fromFalsum 28 = .ok (.invokevirtual 138, 3) := by decide +kernel
theorem dX6_fromFalsum_31 : decode cX6_fromFalsum 31 = .ok (.bipush 70, 2) := by decide +kernel
theorem dX6_fromFalsum_33 : decode cX6_fromFalsum 33 = .ok (.if_icmp .ne 7, 3) := by decide +kernel
theorem dX6_fromFalsum_36 : decode cX6_fromFalsum 36 = .ok (.iconst 1, 1) := by decide +kernel
theorem dX6_fromFalsum_37 : decode cX6_fromFalsum 37 = .ok (.goto 4, 3) := by decide +kernel
theorem dX6_fromFalsum_40 : decode cX6_fromFalsum 40 = .ok (.iconst 0, 1) := by decide +kernel
theorem dX6_fromFalsum_41 : decode cX6_fromFalsum 41 = .ok (.invokevirtual 100, 3) := by decide +kernel
theorem dX6_fromFalsum_44 : decode cX6_fromFalsum 44 = .ok (.aload_n 0, 1) := by decide +kernel
theorem dX6_fromFalsum_45 : decode cX6_fromFalsum 45 = .ok (.invokevirtual 104, 3) := by decide +kernel
theorem dX6_fromFalsum_48 : decode cX6_fromFalsum 48 = .ok (.aload_n 0, 1) := by decide +kernel
theorem dX6_fromFalsum_49 : decode cX6_fromFalsum 49 = .ok (.getfield 21, 3) := by decide +kernel
theorem dX6_fromFalsum_52 : decode cX6_fromFalsum 52 = .ok (.iload_n 2, 1) := by decide +kernel
theorem dX6_fromFalsum_53 : decode cX6_fromFalsum 53 = .ok (.bipush 120, 2) := by decide +kernel
theorem dX6_fromFalsum_55 : decode cX6_fromFalsum 55 = .ok (.iload_n 1, 1) := by decide +kernel
theorem dX6_fromFalsum_56 : decode cX6_fromFalsum 56 = .ok (.iconst (-1), 1) := by decide +kernel
theorem dX6_fromFalsum_57 : decode cX6_fromFalsum 57 = .ok (.invokevirtual 131, 3) := by decide +kernel
theorem dX6_fromFalsum_60 : decode cX6_fromFalsum 60 = .ok (.ireturn, 1) := by decide +kernel
theorem dX6_doubleNegation_0 : decode cX6_doubleNegation 0 = .ok (.aload_n 0, 1) := by decide +kernel
theorem dX6_doubleNegation_1 : decode cX6_doubleNegation 1 = .ok (.iload_n 1, 1) := by decide +kernel
theorem dX6_doubleNegation_2 : decode cX6_doubleNegation 2 = .ok (.invokevirtual 122, 3) := by decide +kernel
theorem dX6_doubleNegation_5 : decode cX6_doubleNegation 5 = .ok (.aload_n 0, 1) := by decide +kernel
theorem dX6_doubleNegation_6 : decode cX6_doubleNegation 6 = .ok (.iload_n 1, 1) := by decide +kernel
theorem dX6_doubleNegation_7 : decode cX6_doubleNegation 7 = .ok (.invokevirtual 125, 3) := by decide +kernel
theorem dX6_doubleNegation_10 : decode cX6_doubleNegation 10 = .ok (.aload_n 0, 1) := by decide +kernel
theorem dX6_doubleNegation_11 : decode cX6_doubleNegation 11 = .ok (.getfield 21, 3) := by decide +kernel
theorem dX6_doubleNegation_14 : decode cX6_doubleNegation 14 = .ok (.iload_n 1, 1) := by decide +kernel
theorem dX6_doubleNegation_15 : decode cX6_doubleNegation 15 = .ok (.invokevirtual 128, 3) := by decide +kernel
theorem dX6_doubleNegation_18 : decode cX6_doubleNegation 18 = .ok (.istore_n 2, 1) := by decide +kernel
theorem dX6_doubleNegation_19 : decode cX6_doubleNegation 19 = .ok (.aload_n 0, 1) := by decide +kernel
theorem dX6_doubleNegation_20 : decode cX6_doubleNegation 20 = .ok (.getfield 15, 3) := by decide +kernel
theorem dX6_doubleNegation_23 : decode cX6_doubleNegation 23 = .ok (.iload_n 2, 1) := by decide +kernel
theorem dX6_doubleNegation_24 : decode cX6_doubleNegation 24 = .ok (.invokevirtual 145, 3) := by decide +kernel
theorem dX6_doubleNegation_27 : decode cX6_doubleNegation 27 = .ok (.istore_n 3, 1) := by decide +kernel
theorem dX6_doubleNegation_28 : decode cX6_doubleNegation 28 = .ok (.aload_n 0, 1) := by decide +kernel
theorem dX6_doubleNegation_29 : decode cX6_doubleNegation 29 = .ok (.aload_n 0, 1) := by decide +kernel
theorem dX6_doubleNegation_30 : decode cX6_doubleNegation 30 = .ok (.getfield 15, 3) := by decide +kernel
theorem dX6_doubleNegation_33 : decode cX6_doubleNegation 33 = .ok (.iload_n 2, 1) := by decide +kernel
theorem dX6_doubleNegation_34 : decode cX6_doubleNegation 34 = .ok (.invokevirtual 138, 3) := by decide +kernel
theorem dX6_doubleNegation_37 : decode cX6_doubleNegation 37 = .ok (.bipush 78, 2) := by decide +kernel
theorem dX6_doubleNegation_39 : decode cX6_doubleNegation 39 = .ok (.if_icmp .ne 20, 3) := by decide +kernel
theorem dX6_doubleNegation_42 : decode cX6_doubleNegation 42 = .ok (.aload_n 0, 1) := by decide +kernel
theorem dX6_doubleNegation_43 : decode cX6_doubleNegation 43 = .ok (.getfield 15, 3) := by decide +kernel
theorem dX6_doubleNegation_46 : decode cX6_doubleNegation 46 = .ok (.iload_n 3, 1) := by decide +kernel
theorem dX6_doubleNegation_47 : decode cX6_doubleNegation 47 = .ok (.invokevirtual 138, 3) := by decide +kernel
theorem dX6_doubleNegation_50 : decode cX6_doubleNegation 50 = .ok (.bipush 78, 2) := by decide +kernel
theorem dX6_doubleNegation_52 : decode cX6_doubleNegation 52 = .ok (.if_icmp .ne 7, 3) := by decide +kernel
theorem dX6_doubleNegation_55 : decode cX6_doubleNegation 55 = .ok (.iconst 1, 1) := by decide +kernel
theorem dX6_doubleNegation_56 : decode cX6_doubleNegation 56 = .ok (.goto 4, 3) := by decide +kernel
theorem dX6_doubleNegation_59 : decode cX6_doubleNegation 59 = .ok (.iconst 0, 1) := by decide +kernel
theorem dX6_doubleNegation_60 : decode cX6_doubleNegation 60 = .ok (.invokevirtual 100, 3) := by decide +kernel
theorem dX6_doubleNegation_63 : decode cX6_doubleNegation 63 = .ok (.aload_n 0, 1) := by decide +kernel
theorem dX6_doubleNegation_64 : decode cX6_doubleNegation 64 = .ok (.invokevirtual 104, 3) := by decide +kernel
theorem dX6_doubleNegation_67 : decode cX6_doubleNegation 67 = .ok (.aload_n 0, 1) := by decide +kernel
theorem dX6_doubleNegation_68 : decode cX6_doubleNegation 68 = .ok (.getfield 21, 3) := by decide +kernel
theorem dX6_doubleNegation_71 : decode cX6_doubleNegation 71 = .ok (.aload_n 0, 1) := by decide +kernel
theorem dX6_doubleNegation_72 : decode cX6_doubleNegation 72 = .ok (.getfield 15, 3) := by decide +kernel
theorem dX6_doubleNegation_75 : decode cX6_doubleNegation 75 = .ok (.iload_n 3, 1) := by decide +kernel
theorem dX6_doubleNegation_76 : decode cX6_doubleNegation 76 = .ok (.invokevirtual 145, 3) := by decide +kernel
theorem dX6_doubleNegation_79 : decode cX6_doubleNegation 79 = .ok (.bipush 100, 2) := by decide +kernel
theorem dX6_doubleNegation_81 : decode cX6_doubleNegation 81 = .ok (.iload_n 1, 1) := by decide +kernel
theorem dX6_doubleNegation_82 : decode cX6_doubleNegation 82 = .ok (.iconst (-1), 1) := by decide +kernel
theorem dX6_doubleNegation_83 : decode cX6_doubleNegation 83 = .ok (.invokevirtual 131, 3) := by decide +kernel
theorem dX6_doubleNegation_86 : decode cX6_doubleNegation 86 = .ok (.ireturn, 1) := by decide +kernel
theorem dX6_newProof_0 : decode cX6_newProof 0 = .ok (.aload_n 0, 1) := by decide +kernel
theorem dX6_newProof_1 : decode cX6_newProof 1 = .ok (.getfield 21, 3) := by decide +kernel
theorem dX6_newProof_4 : decode cX6_newProof 4 = .ok (.getfield 164, 3) := by decide +kernel
theorem dX6_newProof_7 : decode cX6_newProof 7 = .ok (.istore_n 1, 1) := by decide +kernel
theorem dX6_newProof_8 : decode cX6_newProof 8 = .ok (.aload_n 0, 1) := by decide +kernel
theorem dX6_newProof_9 : decode cX6_newProof 9 = .ok (.getfield 21, 3) := by decide +kernel
theorem dX6_newProof_12 : decode cX6_newProof 12 = .ok (.invokevirtual 167, 3) := by decide +kernel
theorem dX6_newProof_15 : decode cX6_newProof 15 = .ok (.iload_n 1, 1) := by decide +kernel
theorem dX6_newProof_16 : decode cX6_newProof 16 = .ok (.ireturn, 1) := by decide +kernel
theorem dX6_keepLemma_0 : decode cX6_keepLemma 0 = .ok (.aload_n 0, 1) := by decide +kernel
theorem dX6_keepLemma_1 : decode cX6_keepLemma 1 = .ok (.invokevirtual 170, 3) := by decide +kernel
theorem dX6_keepLemma_4 : decode cX6_keepLemma 4 = .ok (.aload_n 0, 1) := by decide +kernel
theorem dX6_keepLemma_5 : decode cX6_keepLemma 5 = .ok (.aload_n 0, 1) := by decide +kernel
theorem dX6_keepLemma_6 : decode cX6_keepLemma 6 = .ok (.getfield 21, 3) := by decide +kernel
theorem dX6_keepLemma_9 : decode cX6_keepLemma 9 = .ok (.aload_n 0, 1) := by decide +kernel
theorem dX6_keepLemma_10 : decode cX6_keepLemma 10 = .ok (.getfield 21, 3) := by decide +kernel
theorem dX6_keepLemma_13 : decode cX6_keepLemma 13 = .ok (.getfield 164, 3) := by decide +kernel
theorem dX6_keepLemma_16 : decode cX6_keepLemma 16 = .ok (.iconst 1, 1) := by decide +kernel
theorem dX6_keepLemma_17 : decode cX6_keepLemma 17 = .ok (.isub, 1) := by decide +kernel
theorem dX6_keepLemma_18 : decode cX6_keepLemma 18 = .ok (.invokevirtual 173, 3) := by decide +kernel
theorem dX6_keepLemma_21 : decode cX6_keepLemma 21 = .ok (.iconst (-1), 1) := by decide +kernel
theorem dX6_keepLemma_22 : decode cX6_keepLemma 22 = .ok (.if_icmp .ne 7, 3) := by decide +kernel
theorem dX6_keepLemma_25 : decode cX6_keepLemma 25 = .ok (.iconst 1, 1) := by decide +kernel
theorem dX6_keepLemma_26 : decode cX6_keepLemma 26 = .ok (.goto 4, 3) := by decide +kernel
theorem dX6_keepLemma_29 : decode cX6_keepLemma 29 = .ok (.iconst 0, 1) := by decide +kernel
theorem dX6_keepLemma_30 : decode cX6_keepLemma 30 = .ok (.invokevirtual 100, 3) := by decide +kernel
theorem dX6_keepLemma_33 : decode cX6_keepLemma 33 = .ok (.aload_n 0, 1) := by decide +kernel
theorem dX6_keepLemma_34 : decode cX6_keepLemma 34 = .ok (.aload_n 0, 1) := by decide +kernel
theorem dX6_keepLemma_35 : decode cX6_keepLemma 35 = .ok (.getfield 21, 3) := by decide +kernel
theorem dX6_keepLemma_38 : decode cX6_keepLemma 38 = .ok (.invokevirtual 176, 3) := by decide +kernel
theorem dX6_keepLemma_41 : decode cX6_keepLemma 41 = .ok (.iconst 2, 1) := by decide +kernel
theorem dX6_keepLemma_42 : decode cX6_keepLemma 42 = .ok (.if_icmp .gt 7, 3) := by decide +kernel
theorem dX6_keepLemma_45 : decode cX6_keepLemma 45 = .ok (.iconst 1, 1) := by decide +kernel
theorem dX6_keepLemma_46 : decode cX6_keepLemma 46 = .ok (.goto 4, 3) := by decide +kernel
theorem dX6_keepLemma_49 : decode cX6_keepLemma 49 = .ok (.iconst 0, 1) := by decide +kernel
theorem dX6_keepLemma_50 : decode cX6_keepLemma 50 = .ok (.invokevirtual 100, 3) := by decide +kernel
theorem dX6_keepLemma_53 : decode cX6_keepLemma 53 = .ok (.aload_n 0, 1) := by decide +kernel
theorem dX6_keepLemma_54 : decode cX6_keepLemma 54 = .ok (.getfield 28, 3) := by decide +kernel
theorem dX6_keepLemma_57 : decode cX6_keepLemma 57 = .ok (.getfield 179, 3) := by decide +kernel
theorem dX6_keepLemma_60 : decode cX6_keepLemma 60 = .ok (.bipush 8, 2) := by decide +kernel
theorem dX6_keepLemma_62 : decode cX6_keepLemma 62 = .ok (.if_icmp .lt 13, 3) := by decide +kernel
theorem dX6_keepLemma_65 : decode cX6_keepLemma 65 = .ok (.new 113, 3) := by decide +kernel
theorem dX6_keepLemma_68 : decode cX6_keepLemma 68 = .ok (.dup, 1) := by decide +kernel
theorem dX6_keepLemma_69 : decode cX6_keepLemma 69 = .ok (.ldc 180, 2) := by decide +kernel
theorem dX6_keepLemma_71 : decode cX6_keepLemma 71 = .ok (.invokespecial 117, 3) := by decide +kernel
theorem dX6_keepLemma_74 : decode cX6_keepLemma 74 = .ok (.athrow, 1) := by decide +kernel
theorem dX6_keepLemma_75 : decode cX6_keepLemma 75 = .ok (.aload_n 0, 1) := by decide +kernel
theorem dX6_keepLemma_76 : decode cX6_keepLemma 76 = .ok (.getfield 28, 3) := by decide +kernel
theorem dX6_keepLemma_79 : decode cX6_keepLemma 79 = .ok (.aload_n 0, 1) := by decide +kernel
theorem dX6_keepLemma_80 : decode cX6_keepLemma 80 = .ok (.getfield 21, 3) := by decide +kernel
theorem dX6_keepLemma_83 : decode cX6_keepLemma 83 = .ok (.invokevirtual 182, 3) := by decide +kernel
theorem dX6_keepLemma_86 : decode cX6_keepLemma 86 = .ok (.ireturn, 1) := by decide +kernel
theorem dX6_useLemma_0 : decode cX6_useLemma 0 = .ok (.aload_n 0, 1) := by decide +kernel
theorem dX6_useLemma_1 : decode cX6_useLemma 1 = .ok (.iload_n 1, 1) := by decide +kernel
theorem dX6_useLemma_2 : decode cX6_useLemma 2 = .ok (.invokevirtual 186, 3) := by decide +kernel
theorem dX6_useLemma_5 : decode cX6_useLemma 5 = .ok (.aload_n 0, 1) := by decide +kernel
theorem dX6_useLemma_6 : decode cX6_useLemma 6 = .ok (.getfield 28, 3) := by decide +kernel
theorem dX6_useLemma_9 : decode cX6_useLemma 9 = .ok (.iload_n 1, 1) := by decide +kernel
theorem dX6_useLemma_10 : decode cX6_useLemma 10 = .ok (.invokevirtual 189, 3) := by decide +kernel
theorem dX6_useLemma_13 : decode cX6_useLemma 13 = .ok (.ifCond .le 7, 3) := by decide +kernel
theorem dX6_useLemma_16 : decode cX6_useLemma 16 = .ok (.iconst 1, 1) := by decide +kernel
theorem dX6_useLemma_17 : decode cX6_useLemma 17 = .ok (.goto 4, 3) := by decide +kernel
theorem dX6_useLemma_20 : decode cX6_useLemma 20 = .ok (.iconst 0, 1) := by decide +kernel
theorem dX6_useLemma_21 : decode cX6_useLemma 21 = .ok (.istore 4, 2) := by decide +kernel
theorem dX6_useLemma_23 : decode cX6_useLemma 23 = .ok (.aload_n 0, 1) := by decide +kernel
theorem dX6_useLemma_24 : decode cX6_useLemma 24 = .ok (.getfield 28, 3) := by decide +kernel
theorem dX6_useLemma_27 : decode cX6_useLemma 27 = .ok (.iload_n 1, 1) := by decide +kernel
theorem dX6_useLemma_28 : decode cX6_useLemma 28 = .ok (.invokevirtual 189, 3) := by decide +kernel
theorem dX6_useLemma_31 : decode cX6_useLemma 31 = .ok (.iconst 1, 1) := by decide +kernel
theorem dX6_useLemma_32 : decode cX6_useLemma 32 = .ok (.if_icmp .le 7, 3) := by decide +kernel
theorem dX6_useLemma_35 : decode cX6_useLemma 35 = .ok (.iconst 1, 1) := by decide +kernel
theorem dX6_useLemma_36 : decode cX6_useLemma 36 = .ok (.goto 4, 3) := by decide +kernel
theorem dX6_useLemma_39 : decode cX6_useLemma 39 = .ok (.iconst 0, 1) := by decide +kernel
theorem dX6_useLemma_40 : decode cX6_useLemma 40 = .ok (.istore 5, 2) := by decide +kernel
theorem dX6_useLemma_42 : decode cX6_useLemma 42 = .ok (.iload 4, 2) := by decide +kernel
theorem dX6_useLemma_44 : decode cX6_useLemma 44 = .ok (.ifCond .eq 8, 3) := by decide +kernel
theorem dX6_useLemma_47 : decode cX6_useLemma 47 = .ok (.aload_n 0, 1) := by decide +kernel
theorem dX6_useLemma_48 : decode cX6_useLemma 48 = .ok (.iload_n 2, 1) := by decide +kernel
theorem dX6_useLemma_49 : decode cX6_useLemma 49 = .ok (.invokevirtual 122, 3) := by decide +kernel
theorem dX6_useLemma_52 : decode cX6_useLemma 52 = .ok (.iload 5, 2) := by decide +kernel
theorem dX6_useLemma_54 : decode cX6_useLemma 54 = .ok (.ifCond .eq 8, 3) := by decide +kernel
theorem dX6_useLemma_57 : decode cX6_useLemma 57 = .ok (.aload_n 0, 1) := by decide +kernel
theorem dX6_useLemma_58 : decode cX6_useLemma 58 = .ok (.iload_n 3, 1) := by decide +kernel
theorem dX6_useLemma_59 : decode cX6_useLemma 59 = .ok (.invokevirtual 122, 3) := by decide +kernel
theorem dX6_useLemma_62 : decode cX6_useLemma 62 = .ok (.iload 4, 2) := by decide +kernel
theorem dX6_useLemma_64 : decode cX6_useLemma 64 = .ok (.ifCond .eq 8, 3) := by decide +kernel
theorem dX6_useLemma_67 : decode cX6_useLemma 67 = .ok (.aload_n 0, 1) := by decide +kernel
theorem dX6_useLemma_68 : decode cX6_useLemma 68 = .ok (.iload_n 2, 1) := by decide +kernel
theorem dX6_useLemma_69 : decode cX6_useLemma 69 = .ok (.invokevirtual 125, 3) := by decide +kernel
theorem dX6_useLemma_72 : decode cX6_useLemma 72 = .ok (.iload 5, 2) := by decide +kernel
theorem dX6_useLemma_74 : decode cX6_useLemma 74 = .ok (.ifCond .eq 8, 3) := by decide +kernel
theorem dX6_useLemma_77 : decode cX6_useLemma 77 = .ok (.aload_n 0, 1) := by decide +kernel
theorem dX6_useLemma_78 : decode cX6_useLemma 78 = .ok (.iload_n 3, 1) := by decide +kernel
theorem dX6_useLemma_79 : decode cX6_useLemma 79 = .ok (.invokevirtual 125, 3) := by decide +kernel
theorem dX6_useLemma_82 : decode cX6_useLemma 82 = .ok (.iload 4, 2) := by decide +kernel
theorem dX6_useLemma_84 : decode cX6_useLemma 84 = .ok (.ifCond .eq 7, 3) := by decide +kernel
theorem dX6_useLemma_87 : decode cX6_useLemma 87 = .ok (.iload_n 2, 1) := by decide +kernel
theorem dX6_useLemma_88 : decode cX6_useLemma 88 = .ok (.goto 4, 3) := by decide +kernel
theorem dX6_useLemma_91 : decode cX6_useLemma 91 = .ok (.iconst (-1), 1) := by decide +kernel
theorem dX6_useLemma_92 : decode cX6_useLemma 92 = .ok (.istore 6, 2) := by decide +kernel
theorem dX6_useLemma_94 : decode cX6_useLemma 94 = .ok (.iload 5, 2) := by decide +kernel
theorem dX6_useLemma_96 : decode cX6_useLemma 96 = .ok (.ifCond .eq 7, 3) := by decide +kernel
theorem dX6_useLemma_99 : decode cX6_useLemma 99 = .ok (.iload_n 3, 1) := by decide +kernel
theorem dX6_useLemma_100 : decode cX6_useLemma 100 = .ok (.goto 4, 3) := by decide +kernel
theorem dX6_useLemma_103 : decode cX6_useLemma 103 = .ok (.iconst (-1), 1) := by decide +kernel
theorem dX6_useLemma_104 : decode cX6_useLemma 104 = .ok (.istore 7, 2) := by decide +kernel
theorem dX6_useLemma_106 : decode cX6_useLemma 106 = .ok (.aload_n 0, 1) := by decide +kernel
theorem dX6_useLemma_107 : decode cX6_useLemma 107 = .ok (.aload_n 0, 1) := by decide +kernel
theorem dX6_useLemma_108 : decode cX6_useLemma 108 = .ok (.getfield 28, 3) := by decide +kernel
theorem dX6_useLemma_111 : decode cX6_useLemma 111 = .ok (.iload_n 1, 1) := by decide +kernel
theorem dX6_useLemma_112 : decode cX6_useLemma 112 = .ok (.aload_n 0, 1) := by decide +kernel
theorem dX6_useLemma_113 : decode cX6_useLemma 113 = .ok (.getfield 21, 3) := by decide +kernel
theorem dX6_useLemma_116 : decode cX6_useLemma 116 = .ok (.iload 6, 2) := by decide +kernel
theorem dX6_useLemma_118 : decode cX6_useLemma 118 = .ok (.invokevirtual 128, 3) := by decide +kernel
theorem dX6_useLemma_121 : decode cX6_useLemma 121 = .ok (.aload_n 0, 1) := by decide +kernel
theorem dX6_useLemma_122 : decode cX6_useLemma 122 = .ok (.getfield 21, 3) := by decide +kernel
theorem dX6_useLemma_125 : decode cX6_useLemma 125 = .ok (.iload 7, 2) := by decide +kernel
theorem dX6_useLemma_127 : decode cX6_useLemma 127 = .ok (.invokevirtual 128, 3) := by decide +kernel
theorem dX6_useLemma_130 : decode cX6_useLemma 130 = .ok (.invokevirtual 191, 3) := by decide +kernel
theorem dX6_useLemma_133 : decode cX6_useLemma 133 = .ok (.invokevirtual 100, 3) := by decide +kernel
theorem dX6_useLemma_136 : decode cX6_useLemma 136 = .ok (.aload_n 0, 1) := by decide +kernel
theorem dX6_useLemma_137 : decode cX6_useLemma 137 = .ok (.invokevirtual 104, 3) := by decide +kernel
theorem dX6_useLemma_140 : decode cX6_useLemma 140 = .ok (.aload_n 0, 1) := by decide +kernel
theorem dX6_useLemma_141 : decode cX6_useLemma 141 = .ok (.getfield 28, 3) := by decide +kernel
theorem dX6_useLemma_144 : decode cX6_useLemma 144 = .ok (.iload_n 1, 1) := by decide +kernel
theorem dX6_useLemma_145 : decode cX6_useLemma 145 = .ok (.aload_n 0, 1) := by decide +kernel
theorem dX6_useLemma_146 : decode cX6_useLemma 146 = .ok (.getfield 44, 3) := by decide +kernel
theorem dX6_useLemma_149 : decode cX6_useLemma 149 = .ok (.invokevirtual 195, 3) := by decide +kernel
theorem dX6_useLemma_152 : decode cX6_useLemma 152 = .ok (.aload_n 0, 1) := by decide +kernel
theorem dX6_useLemma_153 : decode cX6_useLemma 153 = .ok (.getfield 21, 3) := by decide +kernel
theorem dX6_useLemma_156 : decode cX6_useLemma 156 = .ok (.aload_n 0, 1) := by decide +kernel
theorem dX6_useLemma_157 : decode cX6_useLemma 157 = .ok (.getfield 15, 3) := by decide +kernel
theorem dX6_useLemma_160 : decode cX6_useLemma 160 = .ok (.aload_n 0, 1) := by decide +kernel
theorem dX6_useLemma_161 : decode cX6_useLemma 161 = .ok (.getfield 44, 3) := by decide +kernel
theorem dX6_useLemma_164 : decode cX6_useLemma 164 = .ok (.invokevirtual 199, 3) := by decide +kernel
theorem dX6_useLemma_167 : decode cX6_useLemma 167 = .ok (.invokestatic 56, 3) := by decide +kernel
theorem dX6_useLemma_170 : decode cX6_useLemma 170 = .ok (.bipush 76, 2) := by decide +kernel
theorem dX6_useLemma_172 : decode cX6_useLemma 172 = .ok (.iload 6, 2) := by decide +kernel
theorem dX6_useLemma_174 : decode cX6_useLemma 174 = .ok (.iload 7, 2) := by decide +kernel
theorem dX6_useLemma_176 : decode cX6_useLemma 176 = .ok (.invokevirtual 131, 3) := by decide +kernel
theorem dX6_useLemma_179 : decode cX6_useLemma 179 = .ok (.ireturn, 1) := by decide +kernel
theorem dX6_lemmas_0 : decode cX6_lemmas 0 = .ok (.aload_n 0, 1) := by decide +kernel
theorem dX6_lemmas_1 : decode cX6_lemmas 1 = .ok (.getfield 28, 3) := by decide +kernel
theorem dX6_lemmas_4 : decode cX6_lemmas 4 = .ok (.getfield 179, 3) := by decide +kernel
theorem dX6_lemmas_7 : decode cX6_lemmas 7 = .ok (.ireturn, 1) := by decide +kernel
theorem dX6_conclusionOf_0 : decode cX6_conclusionOf 0 = .ok (.aload_n 0, 1) := by decide +kernel
theorem dX6_conclusionOf_1 : decode cX6_conclusionOf 1 = .ok (.iload_n 1, 1) := by decide +kernel
theorem dX6_conclusionOf_2 : decode cX6_conclusionOf 2 = .ok (.invokevirtual 186, 3) := by decide +kernel
theorem dX6_conclusionOf_5 : decode cX6_conclusionOf 5 = .ok (.aload_n 0, 1) := by decide +kernel
theorem dX6_conclusionOf_6 : decode cX6_conclusionOf 6 = .ok (.getfield 28, 3) := by decide +kernel
theorem dX6_conclusionOf_9 : decode cX6_conclusionOf 9 = .ok (.iload_n 1, 1) := by decide +kernel
theorem dX6_conclusionOf_10 : decode cX6_conclusionOf 10 = .ok (.invokevirtual 203, 3) := by decide +kernel
theorem dX6_conclusionOf_13 : decode cX6_conclusionOf 13 = .ok (.ireturn, 1) := by decide +kernel
theorem dX6_lines_0 : decode cX6_lines 0 = .ok (.aload_n 0, 1) := by decide +kernel
theorem dX6_lines_1 : decode cX6_lines 1 = .ok (.getfield 21, 3) := by decide +kernel
theorem dX6_lines_4 : decode cX6_lines 4 = .ok (.getfield 164, 3) := by decide +kernel
theorem dX6_lines_7 : decode cX6_lines 7 = .ok (.ireturn, 1) := by decide +kernel
theorem dX6_formulaOf_0 : decode cX6_formulaOf 0 = .ok (.aload_n 0, 1) := by decide +kernel
theorem dX6_formulaOf_1 : decode cX6_formulaOf 1 = .ok (.iload_n 1, 1) := by decide +kernel
theorem dX6_formulaOf_2 : decode cX6_formulaOf 2 = .ok (.invokevirtual 122, 3) := by decide +kernel
theorem dX6_formulaOf_5 : decode cX6_formulaOf 5 = .ok (.aload_n 0, 1) := by decide +kernel
theorem dX6_formulaOf_6 : decode cX6_formulaOf 6 = .ok (.getfield 21, 3) := by decide +kernel
theorem dX6_formulaOf_9 : decode cX6_formulaOf 9 = .ok (.iload_n 1, 1) := by decide +kernel
theorem dX6_formulaOf_10 : decode cX6_formulaOf 10 = .ok (.invokevirtual 128, 3) := by decide +kernel
theorem dX6_formulaOf_13 : decode cX6_formulaOf 13 = .ok (.ireturn, 1) := by decide +kernel
theorem dX6_ruleOf_0 : decode cX6_ruleOf 0 = .ok (.aload_n 0, 1) := by decide +kernel
theorem dX6_ruleOf_1 : decode cX6_ruleOf 1 = .ok (.iload_n 1, 1) := by decide +kernel
theorem dX6_ruleOf_2 : decode cX6_ruleOf 2 = .ok (.invokevirtual 122, 3) := by decide +kernel
theorem dX6_ruleOf_5 : decode cX6_ruleOf 5 = .ok (.aload_n 0, 1) := by decide +kernel
theorem dX6_ruleOf_6 : decode cX6_ruleOf 6 = .ok (.getfield 21, 3) := by decide +kernel
theorem dX6_ruleOf_9 : decode cX6_ruleOf 9 = .ok (.iload_n 1, 1) := by decide +kernel
theorem dX6_ruleOf_10 : decode cX6_ruleOf 10 = .ok (.invokevirtual 206, 3) := by decide +kernel
theorem dX6_ruleOf_13 : decode cX6_ruleOf 13 = .ok (.ireturn, 1) := by decide +kernel
theorem dX6_depthOf_0 : decode cX6_depthOf 0 = .ok (.aload_n 0, 1) := by decide +kernel
theorem dX6_depthOf_1 : decode cX6_depthOf 1 = .ok (.iload_n 1, 1) := by decide +kernel
theorem dX6_depthOf_2 : decode cX6_depthOf 2 = .ok (.invokevirtual 122, 3) := by decide +kernel
theorem dX6_depthOf_5 : decode cX6_depthOf 5 = .ok (.aload_n 0, 1) := by decide +kernel
theorem dX6_depthOf_6 : decode cX6_depthOf 6 = .ok (.getfield 21, 3) := by decide +kernel
theorem dX6_depthOf_9 : decode cX6_depthOf 9 = .ok (.iload_n 1, 1) := by decide +kernel
theorem dX6_depthOf_10 : decode cX6_depthOf 10 = .ok (.invokevirtual 209, 3) := by decide +kernel
theorem dX6_depthOf_13 : decode cX6_depthOf 13 = .ok (.ireturn, 1) := by decide +kernel
theorem dX6_canCite_0 : decode cX6_canCite 0 = .ok (.aload_n 0, 1) := by decide +kernel
theorem dX6_canCite_1 : decode cX6_canCite 1 = .ok (.iload_n 1, 1) := by decide +kernel
theorem dX6_canCite_2 : decode cX6_canCite 2 = .ok (.invokevirtual 122, 3) := by decide +kernel
theorem dX6_canCite_5 : decode cX6_canCite 5 = .ok (.aload_n 0, 1) := by decide +kernel
theorem dX6_canCite_6 : decode cX6_canCite 6 = .ok (.getfield 21, 3) := by decide +kernel
theorem dX6_canCite_9 : decode cX6_canCite 9 = .ok (.iload_n 1, 1) := by decide +kernel
theorem dX6_canCite_10 : decode cX6_canCite 10 = .ok (.invokevirtual 212, 3) := by decide +kernel
theorem dX6_canCite_13 : decode cX6_canCite 13 = .ok (.ireturn, 1) := by decide +kernel
theorem dX6_boxes_0 : decode cX6_boxes 0 = .ok (.aload_n 0, 1) := by decide +kernel
theorem dX6_boxes_1 : decode cX6_boxes 1 = .ok (.getfield 21, 3) := by decide +kernel
theorem dX6_boxes_4 : decode cX6_boxes 4 = .ok (.getfield 216, 3) := by decide +kernel
theorem dX6_boxes_7 : decode cX6_boxes 7 = .ok (.ireturn, 1) := by decide +kernel
theorem dX6_canCiteBox_0 : decode cX6_canCiteBox 0 = .ok (.aload_n 0, 1) := by decide +kernel
theorem dX6_canCiteBox_1 : decode cX6_canCiteBox 1 = .ok (.iload_n 1, 1) := by decide +kernel
theorem dX6_canCiteBox_2 : decode cX6_canCiteBox 2 = .ok (.invokevirtual 148, 3) := by decide +kernel
theorem dX6_canCiteBox_5 : decode cX6_canCiteBox 5 = .ok (.aload_n 0, 1) := by decide +kernel
theorem dX6_canCiteBox_6 : decode cX6_canCiteBox 6 = .ok (.getfield 21, 3) := by decide +kernel
theorem dX6_canCiteBox_9 : decode cX6_canCiteBox 9 = .ok (.iload_n 1, 1) := by decide +kernel
theorem dX6_canCiteBox_10 : decode cX6_canCiteBox 10 = .ok (.invokevirtual 219, 3) := by decide +kernel
theorem dX6_canCiteBox_13 : decode cX6_canCiteBox 13 = .ok (.ireturn, 1) := by decide +kernel
theorem dX6_resultOf_0 : decode cX6_resultOf 0 = .ok (.aload_n 0, 1) := by decide +kernel
theorem dX6_resultOf_1 : decode cX6_resultOf 1 = .ok (.iload_n 1, 1) := by decide +kernel
theorem dX6_resultOf_2 : decode cX6_resultOf 2 = .ok (.invokevirtual 148, 3) := by decide +kernel
theorem dX6_resultOf_5 : decode cX6_resultOf 5 = .ok (.aload_n 0, 1) := by decide +kernel
theorem dX6_resultOf_6 : decode cX6_resultOf 6 = .ok (.getfield 21, 3) := by decide +kernel
theorem dX6_resultOf_9 : decode cX6_resultOf 9 = .ok (.iload_n 1, 1) := by decide +kernel
theorem dX6_resultOf_10 : decode cX6_resultOf 10 = .ok (.invokevirtual 157, 3) := by decide +kernel
theorem dX6_resultOf_13 : decode cX6_resultOf 13 = .ok (.ireturn, 1) := by decide +kernel
theorem dX6_needed_0 : decode cX6_needed 0 = .ok (.aload_n 0, 1) := by decide +kernel
theorem dX6_needed_1 : decode cX6_needed 1 = .ok (.invokevirtual 170, 3) := by decide +kernel
theorem dX6_needed_4 : decode cX6_needed 4 = .ok (.aload_n 0, 1) := by decide +kernel
theorem dX6_needed_5 : decode cX6_needed 5 = .ok (.getfield 21, 3) := by decide +kernel
theorem dX6_needed_8 : decode cX6_needed 8 = .ok (.invokevirtual 222, 3) := by decide +kernel
theorem dX6_needed_11 : decode cX6_needed 11 = .ok (.ireturn, 1) := by decide +kernel
theorem dX6_distance_0 : decode cX6_distance 0 = .ok (.aload_n 0, 1) := by decide +kernel
theorem dX6_distance_1 : decode cX6_distance 1 = .ok (.iload_n 1, 1) := by decide +kernel
theorem dX6_distance_2 : decode cX6_distance 2 = .ok (.invokevirtual 60, 3) := by decide +kernel
theorem dX6_distance_5 : decode cX6_distance 5 = .ok (.aload_n 0, 1) := by decide +kernel
theorem dX6_distance_6 : decode cX6_distance 6 = .ok (.getfield 37, 3) := by decide +kernel
theorem dX6_distance_9 : decode cX6_distance 9 = .ok (.iload_n 1, 1) := by decide +kernel
theorem dX6_distance_10 : decode cX6_distance 10 = .ok (.invokevirtual 225, 3) := by decide +kernel
theorem dX6_distance_13 : decode cX6_distance 13 = .ok (.invokestatic 228, 3) := by decide +kernel
theorem dX6_distance_16 : decode cX6_distance 16 = .ok (.ireturn, 1) := by decide +kernel
theorem dX6_distanceByRounds_0 : decode cX6_distanceByRounds 0 = .ok (.aload_n 0, 1) := by decide +kernel
theorem dX6_distanceByRounds_1 : decode cX6_distanceByRounds 1 = .ok (.iload_n 1, 1) := by decide +kernel
theorem dX6_distanceByRounds_2 : decode cX6_distanceByRounds 2 = .ok (.invokevirtual 60, 3) := by decide +kernel
theorem dX6_distanceByRounds_5 : decode cX6_distanceByRounds 5 = .ok (.aload_n 0, 1) := by decide +kernel
theorem dX6_distanceByRounds_6 : decode cX6_distanceByRounds 6 = .ok (.getfield 37, 3) := by decide +kernel
theorem dX6_distanceByRounds_9 : decode cX6_distanceByRounds 9 = .ok (.iload_n 1, 1) := by decide +kernel
theorem dX6_distanceByRounds_10 : decode cX6_distanceByRounds 10 = .ok (.invokevirtual 231, 3) := by decide +kernel
theorem dX6_distanceByRounds_13 : decode cX6_distanceByRounds 13 = .ok (.invokestatic 228, 3) := by decide +kernel
theorem dX6_distanceByRounds_16 : decode cX6_distanceByRounds 16 = .ok (.ireturn, 1) := by decide +kernel
theorem dX6_normalStep_0 : decode cX6_normalStep 0 = .ok (.aload_n 0, 1) := by decide +kernel
theorem dX6_normalStep_1 : decode cX6_normalStep 1 = .ok (.iload_n 1, 1) := by decide +kernel
theorem dX6_normalStep_2 : decode cX6_normalStep 2 = .ok (.invokevirtual 60, 3) := by decide +kernel
theorem dX6_normalStep_5 : decode cX6_normalStep 5 = .ok (.aload_n 0, 1) := by decide +kernel
theorem dX6_normalStep_6 : decode cX6_normalStep 6 = .ok (.getfield 44, 3) := by decide +kernel
theorem dX6_normalStep_9 : decode cX6_normalStep 9 = .ok (.aload_n 0, 1) := by decide +kernel
theorem dX6_normalStep_10 : decode cX6_normalStep 10 = .ok (.getfield 15, 3) := by decide +kernel
theorem dX6_normalStep_13 : decode cX6_normalStep 13 = .ok (.iload_n 1, 1) := by decide +kernel
theorem dX6_normalStep_14 : decode cX6_normalStep 14 = .ok (.invokevirtual 234, 3) := by decide +kernel
theorem dX6_normalStep_17 : decode cX6_normalStep 17 = .ok (.aload_n 0, 1) := by decide +kernel
theorem dX6_normalStep_18 : decode cX6_normalStep 18 = .ok (.getfield 44, 3) := by decide +kernel
theorem dX6_normalStep_21 : decode cX6_normalStep 21 = .ok (.invokevirtual 238, 3) := by decide +kernel
theorem dX6_normalStep_24 : decode cX6_normalStep 24 = .ok (.ifCond .ne 13, 3) := by decide +kernel
theorem dX6_normalStep_27 : decode cX6_normalStep 27 = .ok (.new 73, 3) := by decide +kernel
theorem dX6_normalStep_30 : decode cX6_normalStep 30 = .ok (.dup, 1) := by decide +kernel
theorem dX6_normalStep_31 : decode cX6_normalStep 31 = .ok (.ldc 242, 2) := by decide +kernel
theorem dX6_normalStep_33 : decode cX6_normalStep 33 = .ok (.invokespecial 77, 3) := by decide +kernel
theorem dX6_normalStep_36 : decode cX6_normalStep 36 = .ok (.athrow, 1) := by decide +kernel
theorem dX6_normalStep_37 : decode cX6_normalStep 37 = .ok (.aload_n 0, 1) := by decide +kernel
theorem dX6_normalStep_38 : decode cX6_normalStep 38 = .ok (.getfield 15, 3) := by decide +kernel
theorem dX6_normalStep_41 : decode cX6_normalStep 41 = .ok (.aload_n 0, 1) := by decide +kernel
theorem dX6_normalStep_42 : decode cX6_normalStep 42 = .ok (.getfield 44, 3) := by decide +kernel
theorem dX6_normalStep_45 : decode cX6_normalStep 45 = .ok (.invokevirtual 199, 3) := by decide +kernel
theorem dX6_normalStep_48 : decode cX6_normalStep 48 = .ok (.invokestatic 56, 3) := by decide +kernel
theorem dX6_normalStep_51 : decode cX6_normalStep 51 = .ok (.ireturn, 1) := by decide +kernel
theorem dX6_normalSteps_0 : decode cX6_normalSteps 0 = .ok (.aload_n 0, 1) := by decide +kernel
theorem dX6_normalSteps_1 : decode cX6_normalSteps 1 = .ok (.iload_n 1, 1) := by decide +kernel
theorem dX6_normalSteps_2 : decode cX6_normalSteps 2 = .ok (.invokevirtual 60, 3) := by decide +kernel
theorem dX6_normalSteps_5 : decode cX6_normalSteps 5 = .ok (.aload_n 0, 1) := by decide +kernel
theorem dX6_normalSteps_6 : decode cX6_normalSteps 6 = .ok (.getfield 44, 3) := by decide +kernel
theorem dX6_normalSteps_9 : decode cX6_normalSteps 9 = .ok (.aload_n 0, 1) := by decide +kernel
theorem dX6_normalSteps_10 : decode cX6_normalSteps 10 = .ok (.getfield 15, 3) := by decide +kernel
theorem dX6_normalSteps_13 : decode cX6_normalSteps 13 = .ok (.iload_n 1, 1) := by decide +kernel
theorem dX6_normalSteps_14 : decode cX6_normalSteps 14 = .ok (.invokevirtual 234, 3) := by decide +kernel
theorem dX6_normalSteps_17 : decode cX6_normalSteps 17 = .ok (.aload_n 0, 1) := by decide +kernel
theorem dX6_normalSteps_18 : decode cX6_normalSteps 18 = .ok (.getfield 44, 3) := by decide +kernel
theorem dX6_normalSteps_21 : decode cX6_normalSteps 21 = .ok (.invokevirtual 244, 3) := by decide +kernel
theorem dX6_normalSteps_24 : decode cX6_normalSteps 24 = .ok (.ireturn, 1) := by decide +kernel
theorem dX6_normalForm_0 : decode cX6_normalForm 0 = .ok (.aload_n 0, 1) := by decide +kernel
theorem dX6_normalForm_1 : decode cX6_normalForm 1 = .ok (.iload_n 1, 1) := by decide +kernel
theorem dX6_normalForm_2 : decode cX6_normalForm 2 = .ok (.invokevirtual 60, 3) := by decide +kernel
theorem dX6_normalForm_5 : decode cX6_normalForm 5 = .ok (.aload_n 0, 1) := by decide +kernel
theorem dX6_normalForm_6 : decode cX6_normalForm 6 = .ok (.getfield 44, 3) := by decide +kernel
theorem dX6_normalForm_9 : decode cX6_normalForm 9 = .ok (.aload_n 0, 1) := by decide +kernel
theorem dX6_normalForm_10 : decode cX6_normalForm 10 = .ok (.getfield 15, 3) := by decide +kernel
theorem dX6_normalForm_13 : decode cX6_normalForm 13 = .ok (.iload_n 1, 1) := by decide +kernel
theorem dX6_normalForm_14 : decode cX6_normalForm 14 = .ok (.invokevirtual 234, 3) := by decide +kernel
theorem dX6_normalForm_17 : decode cX6_normalForm 17 = .ok (.aload_n 0, 1) := by decide +kernel
theorem dX6_normalForm_18 : decode cX6_normalForm 18 = .ok (.getfield 44, 3) := by decide +kernel
theorem dX6_normalForm_21 : decode cX6_normalForm 21 = .ok (.invokevirtual 244, 3) := by decide +kernel
theorem dX6_normalForm_24 : decode cX6_normalForm 24 = .ok (.pop, 1) := by decide +kernel
theorem dX6_normalForm_25 : decode cX6_normalForm 25 = .ok (.aload_n 0, 1) := by decide +kernel
theorem dX6_normalForm_26 : decode cX6_normalForm 26 = .ok (.getfield 15, 3) := by decide +kernel
theorem dX6_normalForm_29 : decode cX6_normalForm 29 = .ok (.aload_n 0, 1) := by decide +kernel
theorem dX6_normalForm_30 : decode cX6_normalForm 30 = .ok (.getfield 44, 3) := by decide +kernel
theorem dX6_normalForm_33 : decode cX6_normalForm 33 = .ok (.invokevirtual 199, 3) := by decide +kernel
theorem dX6_normalForm_36 : decode cX6_normalForm 36 = .ok (.invokestatic 56, 3) := by decide +kernel
theorem dX6_normalForm_39 : decode cX6_normalForm 39 = .ok (.ireturn, 1) := by decide +kernel
theorem dX6_models_0 : decode cX6_models 0 = .ok (.aload_n 0, 1) := by decide +kernel
theorem dX6_models_1 : decode cX6_models 1 = .ok (.iload_n 1, 1) := by decide +kernel
theorem dX6_models_2 : decode cX6_models 2 = .ok (.invokevirtual 60, 3) := by decide +kernel
theorem dX6_models_5 : decode cX6_models 5 = .ok (.aload_n 0, 1) := by decide +kernel
theorem dX6_models_6 : decode cX6_models 6 = .ok (.getfield 15, 3) := by decide +kernel
theorem dX6_models_9 : decode cX6_models 9 = .ok (.iload_n 1, 1) := by decide +kernel
theorem dX6_models_10 : decode cX6_models 10 = .ok (.invokevirtual 247, 3) := by decide +kernel
theorem dX6_models_13 : decode cX6_models 13 = .ok (.invokestatic 250, 3) := by decide +kernel
theorem dX6_models_16 : decode cX6_models 16 = .ok (.ireturn, 1) := by decide +kernel
theorem dX6_modelsByRows_0 : decode cX6_modelsByRows 0 = .ok (.aload_n 0, 1) := by decide +kernel
theorem dX6_modelsByRows_1 : decode cX6_modelsByRows 1 = .ok (.iload_n 1, 1) := by decide +kernel
theorem dX6_modelsByRows_2 : decode cX6_modelsByRows 2 = .ok (.invokevirtual 60, 3) := by decide +kernel
theorem dX6_modelsByRows_5 : decode cX6_modelsByRows 5 = .ok (.iconst 0, 1) := by decide +kernel
theorem dX6_modelsByRows_6 : decode cX6_modelsByRows 6 = .ok (.istore_n 2, 1) := by decide +kernel
theorem dX6_modelsByRows_7 : decode cX6_modelsByRows 7 = .ok (.iconst 0, 1) := by decide +kernel
theorem dX6_modelsByRows_8 : decode cX6_modelsByRows 8 = .ok (.istore_n 3, 1) := by decide +kernel
theorem dX6_modelsByRows_9 : decode cX6_modelsByRows 9 = .ok (.iload_n 3, 1) := by decide +kernel
theorem dX6_modelsByRows_10 : decode cX6_modelsByRows 10 = .ok (.bipush 32, 2) := by decide +kernel
theorem dX6_modelsByRows_12 : decode cX6_modelsByRows 12 = .ok (.if_icmp .ge 24, 3) := by decide +kernel
theorem dX6_modelsByRows_15 : decode cX6_modelsByRows 15 = .ok (.aload_n 0, 1) := by decide +kernel
theorem dX6_modelsByRows_16 : decode cX6_modelsByRows 16 = .ok (.getfield 15, 3) := by decide +kernel
theorem dX6_modelsByRows_19 : decode cX6_modelsByRows 19 = .ok (.iload_n 1, 1) := by decide +kernel
theorem dX6_modelsByRows_20 : decode cX6_modelsByRows 20 = .ok (.iload_n 3, 1) := by decide +kernel
theorem dX6_modelsByRows_21 : decode cX6_modelsByRows 21 = .ok (.invokevirtual 255, 3) := by decide +kernel
theorem dX6_modelsByRows_24 : decode cX6_modelsByRows 24 = .ok (.ifCond .eq 6, 3) := by decide +kernel
theorem dX6_modelsByRows_27 : decode cX6_modelsByRows 27 = .ok (.iinc 2 1, 3) := by decide +kernel
theorem dX6_modelsByRows_30 : decode cX6_modelsByRows 30 = .ok (.iinc 3 1, 3) := by decide +kernel
theorem dX6_modelsByRows_33 : decode cX6_modelsByRows 33 = .ok (.goto (-24), 3) := by decide +kernel
theorem dX6_modelsByRows_36 : decode cX6_modelsByRows 36 = .ok (.iload_n 2, 1) := by decide +kernel
theorem dX6_modelsByRows_37 : decode cX6_modelsByRows 37 = .ok (.ireturn, 1) := by decide +kernel
theorem dX6_follows_0 : decode cX6_follows 0 = .ok (.aload_n 0, 1) := by decide +kernel
theorem dX6_follows_1 : decode cX6_follows 1 = .ok (.iload_n 1, 1) := by decide +kernel
theorem dX6_follows_2 : decode cX6_follows 2 = .ok (.invokevirtual 60, 3) := by decide +kernel
theorem dX6_follows_5 : decode cX6_follows 5 = .ok (.aload_n 0, 1) := by decide +kernel
theorem dX6_follows_6 : decode cX6_follows 6 = .ok (.aload_n 0, 1) := by decide +kernel
theorem dX6_follows_7 : decode cX6_follows 7 = .ok (.getfield 21, 3) := by decide +kernel
theorem dX6_follows_10 : decode cX6_follows 10 = .ok (.invokevirtual 259, 3) := by decide +kernel
theorem dX6_follows_13 : decode cX6_follows 13 = .ok (.iload_n 1, 1) := by decide +kernel
theorem dX6_follows_14 : decode cX6_follows 14 = .ok (.invokevirtual 262, 3) := by decide +kernel
theorem dX6_follows_17 : decode cX6_follows 17 = .ok (.ireturn, 1) := by decide +kernel
theorem dX6_isSound_0 : decode cX6_isSound 0 = .ok (.aload_n 0, 1) := by decide +kernel
theorem dX6_isSound_1 : decode cX6_isSound 1 = .ok (.iload_n 1, 1) := by decide +kernel
theorem dX6_isSound_2 : decode cX6_isSound 2 = .ok (.invokevirtual 122, 3) := by decide +kernel
theorem dX6_isSound_5 : decode cX6_isSound 5 = .ok (.aload_n 0, 1) := by decide +kernel
theorem dX6_isSound_6 : decode cX6_isSound 6 = .ok (.aload_n 0, 1) := by decide +kernel
theorem dX6_isSound_7 : decode cX6_isSound 7 = .ok (.getfield 21, 3) := by decide +kernel
theorem dX6_isSound_10 : decode cX6_isSound 10 = .ok (.invokevirtual 265, 3) := by decide +kernel
theorem dX6_isSound_13 : decode cX6_isSound 13 = .ok (.aload_n 0, 1) := by decide +kernel
theorem dX6_isSound_14 : decode cX6_isSound 14 = .ok (.getfield 21, 3) := by decide +kernel
theorem dX6_isSound_17 : decode cX6_isSound 17 = .ok (.iload_n 1, 1) := by decide +kernel
theorem dX6_isSound_18 : decode cX6_isSound 18 = .ok (.invokevirtual 268, 3) := by decide +kernel
theorem dX6_isSound_21 : decode cX6_isSound 21 = .ok (.iand, 1) := by decide +kernel
theorem dX6_isSound_22 : decode cX6_isSound 22 = .ok (.aload_n 0, 1) := by decide +kernel
theorem dX6_isSound_23 : decode cX6_isSound 23 = .ok (.getfield 21, 3) := by decide +kernel
theorem dX6_isSound_26 : decode cX6_isSound 26 = .ok (.iload_n 1, 1) := by decide +kernel
theorem dX6_isSound_27 : decode cX6_isSound 27 = .ok (.invokevirtual 128, 3) := by decide +kernel
theorem dX6_isSound_30 : decode cX6_isSound 30 = .ok (.invokevirtual 262, 3) := by decide +kernel
theorem dX6_isSound_33 : decode cX6_isSound 33 = .ok (.ireturn, 1) := by decide +kernel
theorem dX6_share_0 : decode cX6_share 0 = .ok (.aload_n 0, 1) := by decide +kernel
theorem dX6_share_1 : decode cX6_share 1 = .ok (.iload_n 1, 1) := by decide +kernel
theorem dX6_share_2 : decode cX6_share 2 = .ok (.invokevirtual 60, 3) := by decide +kernel
theorem dX6_share_5 : decode cX6_share 5 = .ok (.aload_n 0, 1) := by decide +kernel
theorem dX6_share_6 : decode cX6_share 6 = .ok (.getfield 15, 3) := by decide +kernel
theorem dX6_share_9 : decode cX6_share 9 = .ok (.iload_n 1, 1) := by decide +kernel
theorem dX6_share_10 : decode cX6_share 10 = .ok (.invokevirtual 247, 3) := by decide +kernel
theorem dX6_share_13 : decode cX6_share 13 = .ok (.invokestatic 250, 3) := by decide +kernel
theorem dX6_share_16 : decode cX6_share 16 = .ok (.i2f, 1) := by decide +kernel
theorem dX6_share_17 : decode cX6_share 17 = .ok (.ldc_w 271, 3) := by decide +kernel
theorem dX6_share_20 : decode cX6_share 20 = .ok (.fdiv, 1) := by decide +kernel
theorem dX6_share_21 : decode cX6_share 21 = .ok (.freturn, 1) := by decide +kernel
theorem dX6_meanSize_0 : decode cX6_meanSize 0 = .ok (.aload_n 0, 1) := by decide +kernel
theorem dX6_meanSize_1 : decode cX6_meanSize 1 = .ok (.getfield 21, 3) := by decide +kernel
theorem dX6_meanSize_4 : decode cX6_meanSize 4 = .ok (.getfield 164, 3) := by decide +kernel
theorem dX6_meanSize_7 : decode cX6_meanSize 7 = .ok (.ifCond .ne 14, 3) := by decide +kernel
theorem dX6_meanSize_10 : decode cX6_meanSize 10 = .ok (.new 272, 3) := by decide +kernel
theorem dX6_meanSize_13 : decode cX6_meanSize 13 = .ok (.dup, 1) := by decide +kernel
theorem dX6_meanSize_14 : decode cX6_meanSize 14 = .ok (.ldc_w 274, 3) := by decide +kernel
theorem dX6_meanSize_17 : decode cX6_meanSize 17 = .ok (.invokespecial 276, 3) := by decide +kernel
theorem dX6_meanSize_20 : decode cX6_meanSize 20 = .ok (.athrow, 1) := by decide +kernel
theorem dX6_meanSize_21 : decode cX6_meanSize 21 = .ok (.aload_n 0, 1) := by decide +kernel
theorem dX6_meanSize_22 : decode cX6_meanSize 22 = .ok (.getfield 21, 3) := by decide +kernel
theorem dX6_meanSize_25 : decode cX6_meanSize 25 = .ok (.invokevirtual 277, 3) := by decide +kernel
theorem dX6_meanSize_28 : decode cX6_meanSize 28 = .ok (.i2d, 1) := by decide +kernel
theorem dX6_meanSize_29 : decode cX6_meanSize 29 = .ok (.aload_n 0, 1) := by decide +kernel
theorem dX6_meanSize_30 : decode cX6_meanSize 30 = .ok (.getfield 21, 3) := by decide +kernel
theorem dX6_meanSize_33 : decode cX6_meanSize 33 = .ok (.getfield 164, 3) := by decide +kernel
theorem dX6_meanSize_36 : decode cX6_meanSize 36 = .ok (.i2d, 1) := by decide +kernel
theorem dX6_meanSize_37 : decode cX6_meanSize 37 = .ok (.ddiv, 1) := by decide +kernel
theorem dX6_meanSize_38 : decode cX6_meanSize 38 = .ok (.dreturn, 1) := by decide +kernel
theorem dX6_connected_0 : decode cX6_connected 0 = .ok (.aload_n 0, 1) := by decide +kernel
theorem dX6_connected_1 : decode cX6_connected 1 = .ok (.iload_n 2, 1) := by decide +kernel
theorem dX6_connected_2 : decode cX6_connected 2 = .ok (.invokevirtual 60, 3) := by decide +kernel
theorem dX6_connected_5 : decode cX6_connected 5 = .ok (.aload_n 0, 1) := by decide +kernel
theorem dX6_connected_6 : decode cX6_connected 6 = .ok (.iload_n 3, 1) := by decide +kernel
theorem dX6_connected_7 : decode cX6_connected 7 = .ok (.invokevirtual 60, 3) := by decide +kernel
theorem dX6_connected_10 : decode cX6_connected 10 = .ok (.aload_n 0, 1) := by decide +kernel
theorem dX6_connected_11 : decode cX6_connected 11 = .ok (.getfield 15, 3) := by decide +kernel
theorem dX6_connected_14 : decode cX6_connected 14 = .ok (.iload_n 1, 1) := by decide +kernel
theorem dX6_connected_15 : decode cX6_connected 15 = .ok (.iload_n 2, 1) := by decide +kernel
theorem dX6_connected_16 : decode cX6_connected 16 = .ok (.iload_n 3, 1) := by decide +kernel
theorem dX6_connected_17 : decode cX6_connected 17 = .ok (.invokevirtual 52, 3) := by decide +kernel
theorem dX6_connected_20 : decode cX6_connected 20 = .ok (.invokestatic 56, 3) := by decide +kernel
theorem dX6_connected_23 : decode cX6_connected 23 = .ok (.ireturn, 1) := by decide +kernel
theorem dX6_isCovered_0 : decode cX6_isCovered 0 = .ok (.iload_n 1, 1) := by decide +kernel
theorem dX6_isCovered_1 : decode cX6_isCovered 1 = .ok (.aload_n 0, 1) := by decide +kernel
theorem dX6_isCovered_2 : decode cX6_isCovered 2 = .ok (.getfield 15, 3) := by decide +kernel
theorem dX6_isCovered_5 : decode cX6_isCovered 5 = .ok (.iload_n 2, 1) := by decide +kernel
theorem dX6_isCovered_6 : decode cX6_isCovered 6 = .ok (.invokevirtual 247, 3) := by decide +kernel
theorem dX6_isCovered_9 : decode cX6_isCovered 9 = .ok (.iconst (-1), 1) := by decide +kernel
theorem dX6_isCovered_10 : decode cX6_isCovered 10 = .ok (.ixor, 1) := by decide +kernel
theorem dX6_isCovered_11 : decode cX6_isCovered 11 = .ok (.iand, 1) := by decide +kernel
theorem dX6_isCovered_12 : decode cX6_isCovered 12 = .ok (.ifCond .ne 7, 3) := by decide +kernel
theorem dX6_isCovered_15 : decode cX6_isCovered 15 = .ok (.iconst 1, 1) := by decide +kernel
theorem dX6_isCovered_16 : decode cX6_isCovered 16 = .ok (.goto 4, 3) := by decide +kernel
theorem dX6_isCovered_19 : decode cX6_isCovered 19 = .ok (.iconst 0, 1) := by decide +kernel
theorem dX6_isCovered_20 : decode cX6_isCovered 20 = .ok (.ireturn, 1) := by decide +kernel
theorem dX6_requireLetter_0 : decode cX6_requireLetter 0 = .ok (.iload_n 1, 1) := by decide +kernel
theorem dX6_requireLetter_1 : decode cX6_requireLetter 1 = .ok (.ifCond .lt 8, 3) := by decide +kernel
theorem dX6_requireLetter_4 : decode cX6_requireLetter 4 = .ok (.iload_n 1, 1) := by decide +kernel
theorem dX6_requireLetter_5 : decode cX6_requireLetter 5 = .ok (.iconst 5, 1) := by decide +kernel
theorem dX6_requireLetter_6 : decode cX6_requireLetter 6 = .ok (.if_icmp .lt 14, 3) := by decide +kernel
theorem dX6_requireLetter_9 : decode cX6_requireLetter 9 = .ok (.new 280, 3) := by decide +kernel
theorem dX6_requireLetter_12 : decode cX6_requireLetter 12 = .ok (.dup, 1) := by decide +kernel
theorem dX6_requireLetter_13 : decode cX6_requireLetter 13 = .ok (.ldc_w 282, 3) := by decide +kernel
theorem dX6_requireLetter_16 : decode cX6_requireLetter 16 = .ok (.invokespecial 284, 3) := by decide +kernel
theorem dX6_requireLetter_19 : decode cX6_requireLetter 19 = .ok (.athrow, 1) := by decide +kernel
theorem dX6_requireLetter_20 : decode cX6_requireLetter 20 = .ok (.return_, 1) := by decide +kernel
theorem dX6_requireFormula_0 : decode cX6_requireFormula 0 = .ok (.aload_n 0, 1) := by decide +kernel
theorem dX6_requireFormula_1 : decode cX6_requireFormula 1 = .ok (.getfield 15, 3) := by decide +kernel
theorem dX6_requireFormula_4 : decode cX6_requireFormula 4 = .ok (.iload_n 1, 1) := by decide +kernel
theorem dX6_requireFormula_5 : decode cX6_requireFormula 5 = .ok (.invokevirtual 285, 3) := by decide +kernel
theorem dX6_requireFormula_8 : decode cX6_requireFormula 8 = .ok (.ifCond .ne 14, 3) := by decide +kernel
theorem dX6_requireFormula_11 : decode cX6_requireFormula 11 = .ok (.new 288, 3) := by decide +kernel
theorem dX6_requireFormula_14 : decode cX6_requireFormula 14 = .ok (.dup, 1) := by decide +kernel
theorem dX6_requireFormula_15 : decode cX6_requireFormula 15 = .ok (.ldc_w 290, 3) := by decide +kernel
theorem dX6_requireFormula_18 : decode cX6_requireFormula 18 = .ok (.invokespecial 292, 3) := by decide +kernel
theorem dX6_requireFormula_21 : decode cX6_requireFormula 21 = .ok (.athrow, 1) := by decide +kernel
theorem dX6_requireFormula_22 : decode cX6_requireFormula 22 = .ok (.return_, 1) := by decide +kernel
theorem dX6_requireLine_0 : decode cX6_requireLine 0 = .ok (.aload_n 0, 1) := by decide +kernel
theorem dX6_requireLine_1 : decode cX6_requireLine 1 = .ok (.getfield 21, 3) := by decide +kernel
theorem dX6_requireLine_4 : decode cX6_requireLine 4 = .ok (.iload_n 1, 1) := by decide +kernel
theorem dX6_requireLine_5 : decode cX6_requireLine 5 = .ok (.invokevirtual 293, 3) := by decide +kernel
theorem dX6_requireLine_8 : decode cX6_requireLine 8 = .ok (.ifCond .ne 14, 3) := by decide +kernel
theorem dX6_requireLine_11 : decode cX6_requireLine 11 = .ok (.new 288, 3) := by decide +kernel
theorem dX6_requireLine_14 : decode cX6_requireLine 14 = .ok (.dup, 1) := by decide +kernel
theorem dX6_requireLine_15 : decode cX6_requireLine 15 = .ok (.ldc_w 296, 3) := by decide +kernel
theorem dX6_requireLine_18 : decode cX6_requireLine 18 = .ok (.invokespecial 292, 3) := by decide +kernel
theorem dX6_requireLine_21 : decode cX6_requireLine 21 = .ok (.athrow, 1) := by decide +kernel
theorem dX6_requireLine_22 : decode cX6_requireLine 22 = .ok (.return_, 1) := by decide +kernel
theorem dX6_requireBox_0 : decode cX6_requireBox 0 = .ok (.aload_n 0, 1) := by decide +kernel
theorem dX6_requireBox_1 : decode cX6_requireBox 1 = .ok (.getfield 21, 3) := by decide +kernel
theorem dX6_requireBox_4 : decode cX6_requireBox 4 = .ok (.iload_n 1, 1) := by decide +kernel
theorem dX6_requireBox_5 : decode cX6_requireBox 5 = .ok (.invokevirtual 298, 3) := by decide +kernel
theorem dX6_requireBox_8 : decode cX6_requireBox 8 = .ok (.ifCond .ne 14, 3) := by decide +kernel
theorem dX6_requireBox_11 : decode cX6_requireBox 11 = .ok (.new 288, 3) := by decide +kernel
theorem dX6_requireBox_14 : decode cX6_requireBox 14 = .ok (.dup, 1) := by decide +kernel
theorem dX6_requireBox_15 : decode cX6_requireBox 15 = .ok (.ldc_w 301, 3) := by decide +kernel
theorem dX6_requireBox_18 : decode cX6_requireBox 18 = .ok (.invokespecial 292, 3) := by decide +kernel
theorem dX6_requireBox_21 : decode cX6_requireBox 21 = .ok (.athrow, 1) := by decide +kernel
theorem dX6_requireBox_22 : decode cX6_requireBox 22 = .ok (.return_, 1) := by decide +kernel
theorem dX6_requireLemma_0 : decode cX6_requireLemma 0 = .ok (.aload_n 0, 1) := by decide +kernel
theorem dX6_requireLemma_1 : decode cX6_requireLemma 1 = .ok (.getfield 28, 3) := by decide +kernel
theorem dX6_requireLemma_4 : decode cX6_requireLemma 4 = .ok (.iload_n 1, 1) := by decide +kernel
theorem dX6_requireLemma_5 : decode cX6_requireLemma 5 = .ok (.invokevirtual 303, 3) := by decide +kernel
theorem dX6_requireLemma_8 : decode cX6_requireLemma 8 = .ok (.ifCond .ne 14, 3) := by decide +kernel
theorem dX6_requireLemma_11 : decode cX6_requireLemma 11 = .ok (.new 288, 3) := by decide +kernel
theorem dX6_requireLemma_14 : decode cX6_requireLemma 14 = .ok (.dup, 1) := by decide +kernel
theorem dX6_requireLemma_15 : decode cX6_requireLemma 15 = .ok (.ldc_w 304, 3) := by decide +kernel
theorem dX6_requireLemma_18 : decode cX6_requireLemma 18 = .ok (.invokespecial 292, 3) := by decide +kernel
theorem dX6_requireLemma_21 : decode cX6_requireLemma 21 = .ok (.athrow, 1) := by decide +kernel
theorem dX6_requireLemma_22 : decode cX6_requireLemma 22 = .ok (.return_, 1) := by decide +kernel
theorem dX6_requireCitable_0 : decode cX6_requireCitable 0 = .ok (.aload_n 0, 1) := by decide +kernel
theorem dX6_requireCitable_1 : decode cX6_requireCitable 1 = .ok (.getfield 21, 3) := by decide +kernel
theorem dX6_requireCitable_4 : decode cX6_requireCitable 4 = .ok (.iload_n 1, 1) := by decide +kernel
theorem dX6_requireCitable_5 : decode cX6_requireCitable 5 = .ok (.invokevirtual 212, 3) := by decide +kernel
theorem dX6_requireCitable_8 : decode cX6_requireCitable 8 = .ok (.ifCond .ne 14, 3) := by decide +kernel
theorem dX6_requireCitable_11 : decode cX6_requireCitable 11 = .ok (.new 73, 3) := by decide +kernel
theorem dX6_requireCitable_14 : decode cX6_requireCitable 14 = .ok (.dup, 1) := by decide +kernel
theorem dX6_requireCitable_15 : decode cX6_requireCitable 15 = .ok (.ldc_w 306, 3) := by decide +kernel
theorem dX6_requireCitable_18 : decode cX6_requireCitable 18 = .ok (.invokespecial 77, 3) := by decide +kernel
theorem dX6_requireCitable_21 : decode cX6_requireCitable 21 = .ok (.athrow, 1) := by decide +kernel
theorem dX6_requireCitable_22 : decode cX6_requireCitable 22 = .ok (.return_, 1) := by decide +kernel
theorem dX6_requireCitableBox_0 : decode cX6_requireCitableBox 0 = .ok (.aload_n 0, 1) := by decide +kernel
theorem dX6_requireCitableBox_1 : decode cX6_requireCitableBox 1 = .ok (.getfield 21, 3) := by decide +kernel
theorem dX6_requireCitableBox_4 : decode cX6_requireCitableBox 4 = .ok (.iload_n 1, 1) := by decide +kernel
theorem dX6_requireCitableBox_5 : decode cX6_requireCitableBox 5 = .ok (.invokevirtual 219, 3) := by decide +kernel
theorem dX6_requireCitableBox_8 : decode cX6_requireCitableBox 8 = .ok (.ifCond .ne 14, 3) := by decide +kernel
theorem dX6_requireCitableBox_11 : decode cX6_requireCitableBox 11 = .ok (.new 73, 3) := by decide +kernel
theorem dX6_requireCitableBox_14 : decode cX6_requireCitableBox 14 = .ok (.dup, 1) := by decide +kernel
theorem dX6_requireCitableBox_15 : decode cX6_requireCitableBox 15 = .ok (.ldc_w 308, 3) := by decide +kernel
theorem dX6_requireCitableBox_18 : decode cX6_requireCitableBox 18 = .ok (.invokespecial 77, 3) := by decide +kernel
theorem dX6_requireCitableBox_21 : decode cX6_requireCitableBox 21 = .ok (.athrow, 1) := by decide +kernel
theorem dX6_requireCitableBox_22 : decode cX6_requireCitableBox 22 = .ok (.return_, 1) := by decide +kernel
theorem dX6_requireTwoLines_0 : decode cX6_requireTwoLines 0 = .ok (.aload_n 0, 1) := by decide +kernel
theorem dX6_requireTwoLines_1 : decode cX6_requireTwoLines 1 = .ok (.iload_n 1, 1) := by decide +kernel
theorem dX6_requireTwoLines_2 : decode cX6_requireTwoLines 2 = .ok (.invokevirtual 122, 3) := by decide +kernel
theorem dX6_requireTwoLines_5 : decode cX6_requireTwoLines 5 = .ok (.aload_n 0, 1) := by decide +kernel
theorem dX6_requireTwoLines_6 : decode cX6_requireTwoLines 6 = .ok (.iload_n 2, 1) := by decide +kernel
theorem dX6_requireTwoLines_7 : decode cX6_requireTwoLines 7 = .ok (.invokevirtual 122, 3) := by decide +kernel
theorem dX6_requireTwoLines_10 : decode cX6_requireTwoLines 10 = .ok (.aload_n 0, 1) := by decide +kernel
theorem dX6_requireTwoLines_11 : decode cX6_requireTwoLines 11 = .ok (.iload_n 1, 1) := by decide +kernel
theorem dX6_requireTwoLines_12 : decode cX6_requireTwoLines 12 = .ok (.invokevirtual 125, 3) := by decide +kernel
theorem dX6_requireTwoLines_15 : decode cX6_requireTwoLines 15 = .ok (.aload_n 0, 1) := by decide +kernel
theorem dX6_requireTwoLines_16 : decode cX6_requireTwoLines 16 = .ok (.iload_n 2, 1) := by decide +kernel
theorem dX6_requireTwoLines_17 : decode cX6_requireTwoLines 17 = .ok (.invokevirtual 125, 3) := by decide +kernel
theorem dX6_requireTwoLines_20 : decode cX6_requireTwoLines 20 = .ok (.return_, 1) := by decide +kernel
theorem dX6_requireLines_0 : decode cX6_requireLines 0 = .ok (.aload_n 0, 1) := by decide +kernel
theorem dX6_requireLines_1 : decode cX6_requireLines 1 = .ok (.getfield 21, 3) := by decide +kernel
theorem dX6_requireLines_4 : decode cX6_requireLines 4 = .ok (.getfield 164, 3) := by decide +kernel
theorem dX6_requireLines_7 : decode cX6_requireLines 7 = .ok (.ifCond .ne 14, 3) := by decide +kernel
theorem dX6_requireLines_10 : decode cX6_requireLines 10 = .ok (.new 73, 3) := by decide +kernel
theorem dX6_requireLines_13 : decode cX6_requireLines 13 = .ok (.dup, 1) := by decide +kernel
theorem dX6_requireLines_14 : decode cX6_requireLines 14 = .ok (.ldc_w 274, 3) := by decide +kernel
theorem dX6_requireLines_17 : decode cX6_requireLines 17 = .ok (.invokespecial 77, 3) := by decide +kernel
theorem dX6_requireLines_20 : decode cX6_requireLines 20 = .ok (.athrow, 1) := by decide +kernel
theorem dX6_requireLines_21 : decode cX6_requireLines 21 = .ok (.return_, 1) := by decide +kernel
theorem dX6_requireShape_0 : decode cX6_requireShape 0 = .ok (.iload_n 1, 1) := by decide +kernel
theorem dX6_requireShape_1 : decode cX6_requireShape 1 = .ok (.ifCond .ne 14, 3) := by decide +kernel
theorem dX6_requireShape_4 : decode cX6_requireShape 4 = .ok (.new 310, 3) := by decide +kernel
theorem dX6_requireShape_7 : decode cX6_requireShape 7 = .ok (.dup, 1) := by decide +kernel
theorem dX6_requireShape_8 : decode cX6_requireShape 8 = .ok (.ldc_w 312, 3) := by decide +kernel
theorem dX6_requireShape_11 : decode cX6_requireShape 11 = .ok (.invokespecial 314, 3) := by decide +kernel
theorem dX6_requireShape_14 : decode cX6_requireShape 14 = .ok (.athrow, 1) := by decide +kernel
theorem dX6_requireShape_15 : decode cX6_requireShape 15 = .ok (.return_, 1) := by decide +kernel
theorem dX6_requireRoom_0 : decode cX6_requireRoom 0 = .ok (.aload_n 0, 1) := by decide +kernel
theorem dX6_requireRoom_1 : decode cX6_requireRoom 1 = .ok (.getfield 21, 3) := by decide +kernel
theorem dX6_requireRoom_4 : decode cX6_requireRoom 4 = .ok (.getfield 164, 3) := by decide +kernel
theorem dX6_requireRoom_7 : decode cX6_requireRoom 7 = .ok (.bipush 60, 2) := by decide +kernel
theorem dX6_requireRoom_9 : decode cX6_requireRoom 9 = .ok (.if_icmp .lt 14, 3) := by decide +kernel
theorem dX6_requireRoom_12 : decode cX6_requireRoom 12 = .ok (.new 113, 3) := by decide +kernel
theorem dX6_requireRoom_15 : decode cX6_requireRoom 15 = .ok (.dup, 1) := by decide +kernel
theorem dX6_requireRoom_16 : decode cX6_requireRoom 16 = .ok (.ldc_w 315, 3) := by decide +kernel
theorem dX6_requireRoom_19 : decode cX6_requireRoom 19 = .ok (.invokespecial 117, 3) := by decide +kernel
theorem dX6_requireRoom_22 : decode cX6_requireRoom 22 = .ok (.athrow, 1) := by decide +kernel
theorem dX6_requireRoom_23 : decode cX6_requireRoom 23 = .ok (.return_, 1) := by decide +kernel
theorem dX6_made_0 : decode cX6_made 0 = .ok (.iload_n 0, 1) := by decide +kernel
theorem dX6_made_1 : decode cX6_made 1 = .ok (.iconst (-1), 1) := by decide +kernel
theorem dX6_made_2 : decode cX6_made 2 = .ok (.if_icmp .ne 14, 3) := by decide +kernel
theorem dX6_made_5 : decode cX6_made 5 = .ok (.new 113, 3) := by decide +kernel
theorem dX6_made_8 : decode cX6_made 8 = .ok (.dup, 1) := by decide +kernel
theorem dX6_made_9 : decode cX6_made 9 = .ok (.ldc_w 317, 3) := by decide +kernel
theorem dX6_made_12 : decode cX6_made 12 = .ok (.invokespecial 117, 3) := by decide +kernel
theorem dX6_made_15 : decode cX6_made 15 = .ok (.athrow, 1) := by decide +kernel
theorem dX6_made_16 : decode cX6_made 16 = .ok (.iload_n 0, 1) := by decide +kernel
theorem dX6_made_17 : decode cX6_made 17 = .ok (.ireturn, 1) := by decide +kernel
theorem dX6_found_0 : decode cX6_found 0 = .ok (.iload_n 0, 1) := by decide +kernel
theorem dX6_found_1 : decode cX6_found 1 = .ok (.iconst (-1), 1) := by decide +kernel
theorem dX6_found_2 : decode cX6_found 2 = .ok (.if_icmp .ne 14, 3) := by decide +kernel
theorem dX6_found_5 : decode cX6_found 5 = .ok (.new 73, 3) := by decide +kernel
theorem dX6_found_8 : decode cX6_found 8 = .ok (.dup, 1) := by decide +kernel
theorem dX6_found_9 : decode cX6_found 9 = .ok (.ldc_w 319, 3) := by decide +kernel
theorem dX6_found_12 : decode cX6_found 12 = .ok (.invokespecial 77, 3) := by decide +kernel
theorem dX6_found_15 : decode cX6_found 15 = .ok (.athrow, 1) := by decide +kernel
theorem dX6_found_16 : decode cX6_found 16 = .ok (.iload_n 0, 1) := by decide +kernel
theorem dX6_found_17 : decode cX6_found 17 = .ok (.ireturn, 1) := by decide +kernel
theorem dX7_init_0 : decode cX7_init 0 = .ok (.aload_n 0, 1) := by decide +kernel
theorem dX7_init_1 : decode cX7_init 1 = .ok (.invokespecial 1, 3) := by decide +kernel
theorem dX7_init_4 : decode cX7_init 4 = .ok (.aload_n 0, 1) := by decide +kernel
theorem dX7_init_5 : decode cX7_init 5 = .ok (.sipush 150, 3) := by decide +kernel
theorem dX7_init_8 : decode cX7_init 8 = .ok (.newarray .char, 2) := by decide +kernel
theorem dX7_init_10 : decode cX7_init 10 = .ok (.putfield 9, 3) := by decide +kernel
theorem dX7_init_13 : decode cX7_init 13 = .ok (.aload_n 0, 1) := by decide +kernel
theorem dX7_init_14 : decode cX7_init 14 = .ok (.sipush 150, 3) := by decide +kernel
theorem dX7_init_17 : decode cX7_init 17 = .ok (.newarray .int, 2) := by decide +kernel
theorem dX7_init_19 : decode cX7_init 19 = .ok (.putfield 13, 3) := by decide +kernel
theorem dX7_init_22 : decode cX7_init 22 = .ok (.aload_n 0, 1) := by decide +kernel
theorem dX7_init_23 : decode cX7_init 23 = .ok (.sipush 150, 3) := by decide +kernel
theorem dX7_init_26 : decode cX7_init 26 = .ok (.newarray .int, 2) := by decide +kernel
theorem dX7_init_28 : decode cX7_init 28 = .ok (.putfield 17, 3) := by decide +kernel
theorem dX7_init_31 : decode cX7_init 31 = .ok (.aload_n 0, 1) := by decide +kernel
theorem dX7_init_32 : decode cX7_init 32 = .ok (.sipush 150, 3) := by decide +kernel
theorem dX7_init_35 : decode cX7_init 35 = .ok (.newarray .int, 2) := by decide +kernel
theorem dX7_init_37 : decode cX7_init 37 = .ok (.putfield 20, 3) := by decide +kernel
theorem dX7_init_40 : decode cX7_init 40 = .ok (.aload_n 0, 1) := by decide +kernel
theorem dX7_init_41 : decode cX7_init 41 = .ok (.sipush 150, 3) := by decide +kernel
theorem dX7_init_44 : decode cX7_init 44 = .ok (.newarray .int, 2) := by decide +kernel
theorem dX7_init_46 : decode cX7_init 46 = .ok (.putfield 23, 3) := by decide +kernel
theorem dX7_init_49 : decode cX7_init 49 = .ok (.aload_n 0, 1) := by decide +kernel
theorem dX7_init_50 : decode cX7_init 50 = .ok (.iconst 5, 1) := by decide +kernel
theorem dX7_init_51 : decode cX7_init 51 = .ok (.newarray .int, 2) := by decide +kernel
theorem dX7_init_53 : decode cX7_init 53 = .ok (.dup, 1) := by decide +kernel
theorem dX7_init_54 : decode cX7_init 54 = .ok (.iconst 0, 1) := by decide +kernel
theorem dX7_init_55 : decode cX7_init 55 = .ok (.iconst (-1), 1) := by decide +kernel
theorem dX7_init_56 : decode cX7_init 56 = .ok (.iastore, 1) := by decide +kernel
theorem dX7_init_57 : decode cX7_init 57 = .ok (.dup, 1) := by decide +kernel
theorem dX7_init_58 : decode cX7_init 58 = .ok (.iconst 1, 1) := by decide +kernel
theorem dX7_init_59 : decode cX7_init 59 = .ok (.iconst (-1), 1) := by decide +kernel
theorem dX7_init_60 : decode cX7_init 60 = .ok (.iastore, 1) := by decide +kernel
theorem dX7_init_61 : decode cX7_init 61 = .ok (.dup, 1) := by decide +kernel
theorem dX7_init_62 : decode cX7_init 62 = .ok (.iconst 2, 1) := by decide +kernel
theorem dX7_init_63 : decode cX7_init 63 = .ok (.iconst (-1), 1) := by decide +kernel
theorem dX7_init_64 : decode cX7_init 64 = .ok (.iastore, 1) := by decide +kernel
theorem dX7_init_65 : decode cX7_init 65 = .ok (.dup, 1) := by decide +kernel
theorem dX7_init_66 : decode cX7_init 66 = .ok (.iconst 3, 1) := by decide +kernel
theorem dX7_init_67 : decode cX7_init 67 = .ok (.iconst (-1), 1) := by decide +kernel
theorem dX7_init_68 : decode cX7_init 68 = .ok (.iastore, 1) := by decide +kernel
theorem dX7_init_69 : decode cX7_init 69 = .ok (.dup, 1) := by decide +kernel
theorem dX7_init_70 : decode cX7_init 70 = .ok (.iconst 4, 1) := by decide +kernel
theorem dX7_init_71 : decode cX7_init 71 = .ok (.iconst (-1), 1) := by decide +kernel
theorem dX7_init_72 : decode cX7_init 72 = .ok (.iastore, 1) := by decide +kernel
theorem dX7_init_73 : decode cX7_init 73 = .ok (.putfield 26, 3) := by decide +kernel
theorem dX7_init_76 : decode cX7_init 76 = .ok (.aload_n 0, 1) := by decide +kernel
theorem dX7_init_77 : decode cX7_init 77 = .ok (.bipush 60, 2) := by decide +kernel
theorem dX7_init_79 : decode cX7_init 79 = .ok (.newarray .int, 2) := by decide +kernel
theorem dX7_init_81 : decode cX7_init 81 = .ok (.putfield 29, 3) := by decide +kernel
theorem dX7_init_84 : decode cX7_init 84 = .ok (.aload_n 0, 1) := by decide +kernel
theorem dX7_init_85 : decode cX7_init 85 = .ok (.bipush 60, 2) := by decide +kernel
theorem dX7_init_87 : decode cX7_init 87 = .ok (.newarray .char, 2) := by decide +kernel
theorem dX7_init_89 : decode cX7_init 89 = .ok (.putfield 32, 3) := by decide +kernel
theorem dX7_init_92 : decode cX7_init 92 = .ok (.aload_n 0, 1) := by decide +kernel
theorem dX7_init_93 : decode cX7_init 93 = .ok (.bipush 60, 2) := by decide +kernel
theorem dX7_init_95 : decode cX7_init 95 = .ok (.newarray .int, 2) := by decide +kernel
theorem dX7_init_97 : decode cX7_init 97 = .ok (.putfield 35, 3) := by decide +kernel
theorem dX7_init_100 : decode cX7_init 100 = .ok (.aload_n 0, 1) := by decide +kernel
theorem dX7_init_101 : decode cX7_init 101 = .ok (.bipush 60, 2) := by decide +kernel
theorem dX7_init_103 : decode cX7_init 103 = .ok (.iconst 4, 1) := by decide +kernel
theorem dX7_init_104 : decode cX7_init 104 = .ok (.multianewarray 38 2, 4) := by decide +kernel
theorem dX7_init_108 : decode cX7_init 108 = .ok (.putfield 40, 3) := by decide +kernel
theorem dX7_init_111 : decode cX7_init 111 = .ok (.aload_n 0, 1) := by decide +kernel
theorem dX7_init_112 : decode cX7_init 112 = .ok (.bipush 60, 2) := by decide +kernel
theorem dX7_init_114 : decode cX7_init 114 = .ok (.newarray .int, 2) := by decide +kernel
theorem dX7_init_116 : decode cX7_init 116 = .ok (.putfield 43, 3) := by decide +kernel
theorem dX7_init_119 : decode cX7_init 119 = .ok (.aload_n 0, 1) := by decide +kernel
theorem dX7_init_120 : decode cX7_init 120 = .ok (.bipush 60, 2) := by decide +kernel
theorem dX7_init_122 : decode cX7_init 122 = .ok (.newarray .boolean, 2) := by decide +kernel
theorem dX7_init_124 : decode cX7_init 124 = .ok (.putfield 46, 3) := by decide +kernel
theorem dX7_init_127 : decode cX7_init 127 = .ok (.aload_n 0, 1) := by decide +kernel
theorem dX7_init_128 : decode cX7_init 128 = .ok (.bipush 60, 2) := by decide +kernel
theorem dX7_init_130 : decode cX7_init 130 = .ok (.newarray .int, 2) := by decide +kernel
theorem dX7_init_132 : decode cX7_init 132 = .ok (.putfield 50, 3) := by decide +kernel
theorem dX7_init_135 : decode cX7_init 135 = .ok (.aload_n 0, 1) := by decide +kernel
theorem dX7_init_136 : decode cX7_init 136 = .ok (.bipush 60, 2) := by decide +kernel
theorem dX7_init_138 : decode cX7_init 138 = .ok (.newarray .int, 2) := by decide +kernel
theorem dX7_init_140 : decode cX7_init 140 = .ok (.putfield 53, 3) := by decide +kernel
theorem dX7_init_143 : decode cX7_init 143 = .ok (.aload_n 0, 1) := by decide +kernel
theorem dX7_init_144 : decode cX7_init 144 = .ok (.iconst (-1), 1) := by decide +kernel
theorem dX7_init_145 : decode cX7_init 145 = .ok (.putfield 56, 3) := by decide +kernel
theorem dX7_init_148 : decode cX7_init 148 = .ok (.aload_n 0, 1) := by decide +kernel
theorem dX7_init_149 : decode cX7_init 149 = .ok (.bipush 8, 2) := by decide +kernel
theorem dX7_init_151 : decode cX7_init 151 = .ok (.iconst 2, 1) := by decide +kernel
theorem dX7_init_152 : decode cX7_init 152 = .ok (.multianewarray 38 2, 4) := by decide +kernel
theorem dX7_init_156 : decode cX7_init 156 = .ok (.putfield 60, 3) := by decide +kernel
theorem dX7_init_159 : decode cX7_init 159 = .ok (.aload_n 0, 1) := by decide +kernel
theorem dX7_init_160 : decode cX7_init 160 = .ok (.bipush 8, 2) := by decide +kernel
theorem dX7_init_162 : decode cX7_init 162 = .ok (.newarray .int, 2) := by decide +kernel
theorem dX7_init_164 : decode cX7_init 164 = .ok (.putfield 63, 3) := by decide +kernel
theorem dX7_init_167 : decode cX7_init 167 = .ok (.aload_n 0, 1) := by decide +kernel
theorem dX7_init_168 : decode cX7_init 168 = .ok (.bipush 8, 2) := by decide +kernel
theorem dX7_init_170 : decode cX7_init 170 = .ok (.newarray .int, 2) := by decide +kernel
theorem dX7_init_172 : decode cX7_init 172 = .ok (.putfield 66, 3) := by decide +kernel
theorem dX7_init_175 : decode cX7_init 175 = .ok (.aload_n 0, 1) := by decide +kernel
theorem dX7_init_176 : decode cX7_init 176 = .ok (.sipush 1000, 3) := by decide +kernel
theorem dX7_init_179 : decode cX7_init 179 = .ok (.newarray .char, 2) := by decide +kernel
theorem dX7_init_181 : decode cX7_init 181 = .ok (.putfield 69, 3) := by decide +kernel
theorem dX7_init_184 : decode cX7_init 184 = .ok (.aload_n 0, 1) := by decide +kernel
theorem dX7_init_185 : decode cX7_init 185 = .ok (.iconst 5, 1) := by decide +kernel
theorem dX7_init_186 : decode cX7_init 186 = .ok (.newarray .int, 2) := by decide +kernel
theorem dX7_init_188 : decode cX7_init 188 = .ok (.putfield 72, 3) := by decide +kernel
theorem dX7_init_191 : decode cX7_init 191 = .ok (.aload_n 0, 1) := by decide +kernel
theorem dX7_init_192 : decode cX7_init 192 = .ok (.sipush 151, 3) := by decide +kernel
theorem dX7_init_195 : decode cX7_init 195 = .ok (.newarray .boolean, 2) := by decide +kernel
theorem dX7_init_197 : decode cX7_init 197 = .ok (.putfield 75, 3) := by decide +kernel
theorem dX7_init_200 : decode cX7_init 200 = .ok (.aload_n 0, 1) := by decide +kernel
theorem dX7_init_201 : decode cX7_init 201 = .ok (.sipush 151, 3) := by decide +kernel
theorem dX7_init_204 : decode cX7_init 204 = .ok (.newarray .int, 2) := by decide +kernel
theorem dX7_init_206 : decode cX7_init 206 = .ok (.putfield 78, 3) := by decide +kernel
theorem dX7_init_209 : decode cX7_init 209 = .ok (.aload_n 0, 1) := by decide +kernel
theorem dX7_init_210 : decode cX7_init 210 = .ok (.bipush 60, 2) := by decide +kernel
theorem dX7_init_212 : decode cX7_init 212 = .ok (.newarray .boolean, 2) := by decide +kernel
theorem dX7_init_214 : decode cX7_init 214 = .ok (.putfield 81, 3) := by decide +kernel
theorem dX7_init_217 : decode cX7_init 217 = .ok (.return_, 1) := by decide +kernel
theorem dX7_thrown_0 : decode cX7_thrown 0 = .ok (.aload_n 0, 1) := by decide +kernel
theorem dX7_thrown_1 : decode cX7_thrown 1 = .ok (.getfield 84, 3) := by decide +kernel
theorem dX7_thrown_4 : decode cX7_thrown 4 = .ok (.ireturn, 1) := by decide +kernel
theorem dX7_raises_0 : decode cX7_raises 0 = .ok (.aload_n 0, 1) := by decide +kernel
theorem dX7_raises_1 : decode cX7_raises 1 = .ok (.iload_n 1, 1) := by decide +kernel
theorem dX7_raises_2 : decode cX7_raises 2 = .ok (.putfield 84, 3) := by decide +kernel
theorem dX7_raises_5 : decode cX7_raises 5 = .ok (.iconst 0, 1) := by decide +kernel
theorem dX7_raises_6 : decode cX7_raises 6 = .ok (.ireturn, 1) := by decide +kernel
theorem dX7_in_0 : decode cX7_in 0 = .ok (.iload_n 0, 1) := by decide +kernel
theorem dX7_in_1 : decode cX7_in 1 = .ok (.iload_n 1, 1) := by decide +kernel
theorem dX7_in_2 : decode cX7_in 2 = .ok (.if_icmp .lt 12, 3) := by decide +kernel
theorem dX7_in_5 : decode cX7_in 5 = .ok (.iload_n 0, 1) := by decide +kernel
theorem dX7_in_6 : decode cX7_in 6 = .ok (.iload_n 2, 1) := by decide +kernel
theorem dX7_in_7 : decode cX7_in 7 = .ok (.if_icmp .gt 7, 3) := by decide +kernel
theorem dX7_in_10 : decode cX7_in 10 = .ok (.iconst 1, 1) := by decide +kernel
theorem dX7_in_11 : decode cX7_in 11 = .ok (.goto 4, 3) := by decide +kernel
theorem dX7_in_14 : decode cX7_in 14 = .ok (.iconst 0, 1) := by decide +kernel
theorem dX7_in_15 : decode cX7_in 15 = .ok (.ireturn, 1) := by decide +kernel
theorem dX7_isFormula_0 : decode cX7_isFormula 0 = .ok (.iload_n 1, 1) := by decide +kernel
theorem dX7_isFormula_1 : decode cX7_isFormula 1 = .ok (.iconst 0, 1) := by decide +kernel
theorem dX7_isFormula_2 : decode cX7_isFormula 2 = .ok (.aload_n 0, 1) := by decide +kernel
theorem dX7_isFormula_3 : decode cX7_isFormula 3 = .ok (.getfield 87, 3) := by decide +kernel
theorem dX7_isFormula_6 : decode cX7_isFormula 6 = .ok (.iconst 1, 1) := by decide +kernel
theorem dX7_isFormula_7 : decode cX7_isFormula 7 = .ok (.isub, 1) := by decide +kernel
theorem dX7_isFormula_8 : decode cX7_isFormula 8 = .ok (.invokestatic 90, 3) := by decide +kernel
theorem dX7_isFormula_11 : decode cX7_isFormula 11 = .ok (.ireturn, 1) := by decide +kernel
theorem dX7_isLine_0 : decode cX7_isLine 0 = .ok (.iload_n 1, 1) := by decide +kernel
theorem dX7_isLine_1 : decode cX7_isLine 1 = .ok (.iconst 0, 1) := by decide +kernel
theorem dX7_isLine_2 : decode cX7_isLine 2 = .ok (.aload_n 0, 1) := by decide +kernel
theorem dX7_isLine_3 : decode cX7_isLine 3 = .ok (.getfield 94, 3) := by decide +kernel
theorem dX7_isLine_6 : decode cX7_isLine 6 = .ok (.iconst 1, 1) := by decide +kernel
theorem dX7_isLine_7 : decode cX7_isLine 7 = .ok (.isub, 1) := by decide +kernel
theorem dX7_isLine_8 : decode cX7_isLine 8 = .ok (.invokestatic 90, 3) := by decide +kernel
theorem dX7_isLine_11 : decode cX7_isLine 11 = .ok (.ireturn, 1) := by decide +kernel
theorem dX7_isBox_0 : decode cX7_isBox 0 = .ok (.iload_n 1, 1) := by decide +kernel
theorem dX7_isBox_1 : decode cX7_isBox 1 = .ok (.iconst 0, 1) := by decide +kernel
theorem dX7_isBox_2 : decode cX7_isBox 2 = .ok (.aload_n 0, 1) := by decide +kernel
theorem dX7_isBox_3 : decode cX7_isBox 3 = .ok (.getfield 97, 3) := by decide +kernel
theorem dX7_isBox_6 : decode cX7_isBox 6 = .ok (.iconst 1, 1) := by decide +kernel
theorem dX7_isBox_7 : decode cX7_isBox 7 = .ok (.isub, 1) := by decide +kernel
theorem dX7_isBox_8 : decode cX7_isBox 8 = .ok (.invokestatic 90, 3) := by decide +kernel
theorem dX7_isBox_11 : decode cX7_isBox 11 = .ok (.ireturn, 1) := by decide +kernel
theorem dX7_letterTable_0 : decode cX7_letterTable 0 = .ok (.iconst 0, 1) := by decide +kernel
theorem dX7_letterTable_1 : decode cX7_letterTable 1 = .ok (.istore_n 1, 1) := by decide +kernel
theorem dX7_letterTable_2 : decode cX7_letterTable 2 = .ok (.iconst 0, 1) := by decide +kernel
theorem dX7_letterTable_3 : decode cX7_letterTable 3 = .ok (.istore_n 2, 1) := by decide +kernel
theorem dX7_letterTable_4 : decode cX7_letterTable 4 = .ok (.iload_n 2, 1) := by decide +kernel
theorem dX7_letterTable_5 : decode cX7_letterTable 5 = .ok (.bipush 32, 2) := by decide +kernel
theorem dX7_letterTable_7 : decode cX7_letterTable 7 = .ok (.if_icmp .ge 19, 3) := by decide +kernel
theorem dX7_letterTable_10 : decode cX7_letterTable 10 = .ok (.iload_n 1, 1) := by decide +kernel
theorem dX7_letterTable_11 : decode cX7_letterTable 11 = .ok (.iload_n 2, 1) := by decide +kernel
theorem dX7_letterTable_12 : decode cX7_letterTable 12 = .ok (.iload_n 0, 1) := by decide +kernel
theorem dX7_letterTable_13 : decode cX7_letterTable 13 = .ok (.ishr, 1) := by decide +kernel
theorem dX7_letterTable_14 : decode cX7_letterTable 14 = .ok (.iconst 1, 1) := by decide +kernel
theorem dX7_letterTable_15 : decode cX7_letterTable 15 = .ok (.iand, 1) := by decide +kernel
theorem dX7_letterTable_16 : decode cX7_letterTable 16 = .ok (.iload_n 2, 1) := by decide +kernel
theorem dX7_letterTable_17 : decode cX7_letterTable 17 = .ok (.ishl, 1) := by decide +kernel
theorem dX7_letterTable_18 : decode cX7_letterTable 18 = .ok (.ior, 1) := by decide +kernel
theorem dX7_letterTable_19 : decode cX7_letterTable 19 = .ok (.istore_n 1, 1) := by decide +kernel
theorem dX7_letterTable_20 : decode cX7_letterTable 20 = .ok (.iinc 2 1, 3) := by decide +kernel
theorem dX7_letterTable_23 : decode cX7_letterTable 23 = .ok (.goto (-19), 3) := by decide +kernel
theorem dX7_letterTable_26 : decode cX7_letterTable 26 = .ok (.iload_n 1, 1) := by decide +kernel
theorem dX7_letterTable_27 : decode cX7_letterTable 27 = .ok (.ireturn, 1) := by decide +kernel
theorem dX7_truth_0 : decode cX7_truth 0 = .ok (.iload_n 1, 1) := by decide +kernel
theorem dX7_truth_1 : decode cX7_truth 1 = .ok (.tableswitch 126 65 78 #[96, 126, 110, 126, 126, 71, 126, 126, 126, 126, 82, 126, 126, 73], 71) := by decide +kernel
theorem dX7_truth_72 : decode cX7_truth 72 = .ok (.iconst 0, 1) := by decide +kernel
theorem dX7_truth_73 : decode cX7_truth 73 = .ok (.ireturn, 1) := by decide +kernel
theorem dX7_truth_74 : decode cX7_truth 74 = .ok (.aload_n 0, 1) := by decide +kernel
theorem dX7_truth_75 : decode cX7_truth 75 = .ok (.getfield 23, 3) := by decide +kernel
theorem dX7_truth_78 : decode cX7_truth 78 = .ok (.iload_n 2, 1) := by decide +kernel
theorem dX7_truth_79 : decode cX7_truth 79 = .ok (.iaload, 1) := by decide +kernel
theorem dX7_truth_80 : decode cX7_truth 80 = .ok (.iconst (-1), 1) := by decide +kernel
theorem dX7_truth_81 : decode cX7_truth 81 = .ok (.ixor, 1) := by decide +kernel
theorem dX7_truth_82 : decode cX7_truth 82 = .ok (.ireturn, 1) := by decide +kernel
theorem dX7_truth_83 : decode cX7_truth 83 = .ok (.aload_n 0, 1) := by decide +kernel
theorem dX7_truth_84 : decode cX7_truth 84 = .ok (.getfield 23, 3) := by decide +kernel
theorem dX7_truth_87 : decode cX7_truth 87 = .ok (.iload_n 2, 1) := by decide +kernel
theorem dX7_truth_88 : decode cX7_truth 88 = .ok (.iaload, 1) := by decide +kernel
theorem dX7_truth_89 : decode cX7_truth 89 = .ok (.aload_n 0, 1) := by decide +kernel
theorem dX7_truth_90 : decode cX7_truth 90 = .ok (.getfield 23, 3) := by decide +kernel
theorem dX7_truth_93 : decode cX7_truth 93 = .ok (.iload_n 3, 1) := by decide +kernel
theorem dX7_truth_94 : decode cX7_truth 94 = .ok (.iaload, 1) := by decide +kernel
theorem dX7_truth_95 : decode cX7_truth 95 = .ok (.iand, 1) := by decide +kernel
theorem dX7_truth_96 : decode cX7_truth 96 = .ok (.ireturn, 1) := by decide +kernel
theorem dX7_truth_97 : decode cX7_truth 97 = .ok (.aload_n 0, 1) := by decide +kernel
theorem dX7_truth_98 : decode cX7_truth 98 = .ok (.getfield 23, 3) := by decide +kernel
theorem dX7_truth_101 : decode cX7_truth 101 = .ok (.iload_n 2, 1) := by decide +kernel
theorem dX7_truth_102 : decode cX7_truth 102 = .ok (.iaload, 1) := by decide +kernel
theorem dX7_truth_103 : decode cX7_truth 103 = .ok (.aload_n 0, 1) := by decide +kernel
theorem dX7_truth_104 : decode cX7_truth 104 = .ok (.getfield 23, 3) := by decide +kernel
theorem dX7_truth_107 : decode cX7_truth 107 = .ok (.iload_n 3, 1) := by decide +kernel
theorem dX7_truth_108 : decode cX7_truth 108 = .ok (.iaload, 1) := by decide +kernel
theorem dX7_truth_109 : decode cX7_truth 109 = .ok (.ior, 1) := by decide +kernel
theorem dX7_truth_110 : decode cX7_truth 110 = .ok (.ireturn, 1) := by decide +kernel
theorem dX7_truth_111 : decode cX7_truth 111 = .ok (.aload_n 0, 1) := by decide +kernel
theorem dX7_truth_112 : decode cX7_truth 112 = .ok (.getfield 23, 3) := by decide +kernel
theorem dX7_truth_115 : decode cX7_truth 115 = .ok (.iload_n 2, 1) := by decide +kernel
theorem dX7_truth_116 : decode cX7_truth 116 = .ok (.iaload, 1) := by decide +kernel
theorem dX7_truth_117 : decode cX7_truth 117 = .ok (.iconst (-1), 1) := by decide +kernel
theorem dX7_truth_118 : decode cX7_truth 118 = .ok (.ixor, 1) := by decide +kernel
theorem dX7_truth_119 : decode cX7_truth 119 = .ok (.aload_n 0, 1) := by decide +kernel
theorem dX7_truth_120 : decode cX7_truth 120 = .ok (.getfield 23, 3) := by decide +kernel
theorem dX7_truth_123 : decode cX7_truth 123 = .ok (.iload_n 3, 1) := by decide +kernel
theorem dX7_truth_124 : decode cX7_truth 124 = .ok (.iaload, 1) := by decide +kernel
theorem dX7_truth_125 : decode cX7_truth 125 = .ok (.ior, 1) := by decide +kernel
theorem dX7_truth_126 : decode cX7_truth 126 = .ok (.ireturn, 1) := by decide +kernel
theorem dX7_truth_127 : decode cX7_truth 127 = .ok (.iload_n 1, 1) := by decide +kernel
theorem dX7_truth_128 : decode cX7_truth 128 = .ok (.bipush 97, 2) := by decide +kernel
theorem dX7_truth_130 : decode cX7_truth 130 = .ok (.isub, 1) := by decide +kernel
theorem dX7_truth_131 : decode cX7_truth 131 = .ok (.invokestatic 100, 3) := by decide +kernel
theorem dX7_truth_134 : decode cX7_truth 134 = .ok (.ireturn, 1) := by decide +kernel
theorem dX7_known_0 : decode cX7_known 0 = .ok (.iconst 0, 1) := by decide +kernel
theorem dX7_known_1 : decode cX7_known 1 = .ok (.istore 4, 2) := by decide +kernel
theorem dX7_known_3 : decode cX7_known 3 = .ok (.iload 4, 2) := by decide +kernel
theorem dX7_known_5 : decode cX7_known 5 = .ok (.aload_n 0, 1) := by decide +kernel
theorem dX7_known_6 : decode cX7_known 6 = .ok (.getfield 87, 3) := by decide +kernel
theorem dX7_known_9 : decode cX7_known 9 = .ok (.if_icmp .ge 45, 3) := by decide +kernel
theorem dX7_known_12 : decode cX7_known 12 = .ok (.aload_n 0, 1) := by decide +kernel
theorem dX7_known_13 : decode cX7_known 13 = .ok (.getfield 9, 3) := by decide +kernel
theorem dX7_known_16 : decode cX7_known 16 = .ok (.iload 4, 2) := by decide +kernel
theorem dX7_known_18 : decode cX7_known 18 = .ok (.caload, 1) := by decide +kernel
theorem dX7_known_19 : decode cX7_known 19 = .ok (.iload_n 1, 1) := by decide +kernel
theorem dX7_known_20 : decode cX7_known 20 = .ok (.if_icmp .ne 28, 3) := by decide +kernel
theorem dX7_known_23 : decode cX7_known 23 = .ok (.aload_n 0, 1) := by decide +kernel
theorem dX7_known_24 : decode cX7_known 24 = .ok (.getfield 13, 3) := by decide +kernel
theorem dX7_known_27 : decode cX7_known 27 = .ok (.iload 4, 2) := by decide +kernel
theorem dX7_known_29 : decode cX7_known 29 = .ok (.iaload, 1) := by decide +kernel
theorem dX7_known_30 : decode cX7_known 30 = .ok (.iload_n 2, 1) := by decide +kernel
theorem dX7_known_31 : decode cX7_known 31 = .ok (.if_icmp .ne 17, 3) := by decide +kernel
theorem dX7_known_34 : decode cX7_known 34 = .ok (.aload_n 0, 1) := by decide +kernel
theorem dX7_known_35 : decode cX7_known 35 = .ok (.getfield 17, 3) := by decide +kernel
theorem dX7_known_38 : decode cX7_known 38 = .ok (.iload 4, 2) := by decide +kernel
theorem dX7_known_40 : decode cX7_known 40 = .ok (.iaload, 1) := by decide +kernel
theorem dX7_known_41 : decode cX7_known 41 = .ok (.iload_n 3, 1) := by decide +kernel
theorem dX7_known_42 : decode cX7_known 42 = .ok (.if_icmp .ne 6, 3) := by decide +kernel
theorem dX7_known_45 : decode cX7_known 45 = .ok (.iload 4, 2) := by decide +kernel
theorem dX7_known_47 : decode cX7_known 47 = .ok (.ireturn, 1) := by decide +kernel
theorem dX7_known_48 : decode cX7_known 48 = .ok (.iinc 4 1, 3) := by decide +kernel
theorem dX7_known_51 : decode cX7_known 51 = .ok (.goto (-48), 3) := by decide +kernel
theorem dX7_known_54 : decode cX7_known 54 = .ok (.iconst (-1), 1) := by decide +kernel
theorem dX7_known_55 : decode cX7_known 55 = .ok (.ireturn, 1) := by decide +kernel
theorem dX7_made_0 : decode cX7_made 0 = .ok (.iconst 1, 1) := by decide +kernel
theorem dX7_made_1 : decode cX7_made 1 = .ok (.iload_n 2, 1) := by decide +kernel
theorem dX7_made_2 : decode cX7_made 2 = .ok (.iconst (-1), 1) := by decide +kernel
theorem dX7_made_3 : decode cX7_made 3 = .ok (.if_icmp .ne 7, 3) := by decide +kernel
theorem dX7_made_6 : decode cX7_made 6 = .ok (.iconst 0, 1) := by decide +kernel
theorem dX7_made_7 : decode cX7_made 7 = .ok (.goto 9, 3) := by decide +kernel
theorem dX7_made_10 : decode cX7_made 10 = .ok (.aload_n 0, 1) := by decide +kernel
theorem dX7_made_11 : decode cX7_made 11 = .ok (.getfield 20, 3) := by decide +kernel
theorem dX7_made_14 : decode cX7_made 14 = .ok (.iload_n 2, 1) := by decide +kernel
theorem dX7_made_15 : decode cX7_made 15 = .ok (.iaload, 1) := by decide +kernel
theorem dX7_made_16 : decode cX7_made 16 = .ok (.iadd, 1) := by decide +kernel
theorem dX7_made_17 : decode cX7_made 17 = .ok (.iload_n 3, 1) := by decide +kernel
theorem dX7_made_18 : decode cX7_made 18 = .ok (.iconst (-1), 1) := by decide +kernel
theorem dX7_made_19 : decode cX7_made 19 = .ok (.if_icmp .ne 7, 3) := by decide +kernel
theorem dX7_made_22 : decode cX7_made 22 = .ok (.iconst 0, 1) := by decide +kernel
theorem dX7_made_23 : decode cX7_made 23 = .ok (.goto 9, 3) := by decide +kernel
theorem dX7_made_26 : decode cX7_made 26 = .ok (.aload_n 0, 1) := by decide +kernel
theorem dX7_made_27 : decode cX7_made 27 = .ok (.getfield 20, 3) := by decide +kernel
theorem dX7_made_30 : decode cX7_made 30 = .ok (.iload_n 3, 1) := by decide +kernel
theorem dX7_made_31 : decode cX7_made 31 = .ok (.iaload, 1) := by decide +kernel
theorem dX7_made_32 : decode cX7_made 32 = .ok (.iadd, 1) := by decide +kernel
theorem dX7_made_33 : decode cX7_made 33 = .ok (.istore 4, 2) := by decide +kernel
theorem dX7_made_35 : decode cX7_made 35 = .ok (.aload_n 0, 1) := by decide +kernel
theorem dX7_made_36 : decode cX7_made 36 = .ok (.iload_n 1, 1) := by decide +kernel
theorem dX7_made_37 : decode cX7_made 37 = .ok (.iload_n 2, 1) := by decide +kernel
theorem dX7_made_38 : decode cX7_made 38 = .ok (.iload_n 3, 1) := by decide +kernel
theorem dX7_made_39 : decode cX7_made 39 = .ok (.invokevirtual 104, 3) := by decide +kernel
theorem dX7_made_42 : decode cX7_made 42 = .ok (.istore 5, 2) := by decide +kernel
theorem dX7_made_44 : decode cX7_made 44 = .ok (.iload 4, 2) := by decide +kernel
theorem dX7_made_46 : decode cX7_made 46 = .ok (.bipush 30, 2) := by decide +kernel
theorem dX7_made_48 : decode cX7_made 48 = .ok (.if_icmp .gt 19, 3) := by decide +kernel
theorem dX7_made_51 : decode cX7_made 51 = .ok (.iload 5, 2) := by decide +kernel
theorem dX7_made_53 : decode cX7_made 53 = .ok (.iconst (-1), 1) := by decide +kernel
theorem dX7_made_54 : decode cX7_made 54 = .ok (.if_icmp .ne 15, 3) := by decide +kernel
theorem dX7_made_57 : decode cX7_made 57 = .ok (.aload_n 0, 1) := by decide +kernel
theorem dX7_made_58 : decode cX7_made 58 = .ok (.getfield 87, 3) := by decide +kernel
theorem dX7_made_61 : decode cX7_made 61 = .ok (.sipush 150, 3) := by decide +kernel
theorem dX7_made_64 : decode cX7_made 64 = .ok (.if_icmp .ne 5, 3) := by decide +kernel
theorem dX7_made_67 : decode cX7_made 67 = .ok (.iconst (-1), 1) := by decide +kernel
theorem dX7_made_68 : decode cX7_made 68 = .ok (.ireturn, 1) := by decide +kernel
theorem dX7_made_69 : decode cX7_made 69 = .ok (.iload 5, 2) := by decide +kernel
theorem dX7_made_71 : decode cX7_made 71 = .ok (.iconst (-1), 1) := by decide +kernel
theorem dX7_made_72 : decode cX7_made 72 = .ok (.if_icmp .ne 66, 3) := by decide +kernel
theorem dX7_made_75 : decode cX7_made 75 = .ok (.aload_n 0, 1) := by decide +kernel
theorem dX7_made_76 : decode cX7_made 76 = .ok (.getfield 87, 3) := by decide +kernel
theorem dX7_made_79 : decode cX7_made 79 = .ok (.istore 5, 2) := by decide +kernel
theorem dX7_made_81 : decode cX7_made 81 = .ok (.aload_n 0, 1) := by decide +kernel
theorem dX7_made_82 : decode cX7_made 82 = .ok (.getfield 9, 3) := by decide +kernel
theorem dX7_made_85 : decode cX7_made 85 = .ok (.iload 5, 2) := by decide +kernel
theorem dX7_made_87 : decode cX7_made 87 = .ok (.iload_n 1, 1) := by decide +kernel
theorem dX7_made_88 : decode cX7_made 88 = .ok (.castore, 1) := by decide +kernel
theorem dX7_made_89 : decode cX7_made 89 = .ok (.aload_n 0, 1) := by decide +kernel
theorem dX7_made_90 : decode cX7_made 90 = .ok (.getfield 13, 3) := by decide +kernel
theorem dX7_made_93 : decode cX7_made 93 = .ok (.iload 5, 2) := by decide +kernel
theorem dX7_made_95 : decode cX7_made 95 = .ok (.iload_n 2, 1) := by decide +kernel
theorem dX7_made_96 : decode cX7_made 96 = .ok (.iastore, 1) := by decide +kernel
theorem dX7_made_97 : decode cX7_made 97 = .ok (.aload_n 0, 1) := by decide +kernel
theorem dX7_made_98 : decode cX7_made 98 = .ok (.getfield 17, 3) := by decide +kernel
theorem dX7_made_101 : decode cX7_made 101 = .ok (.iload 5, 2) := by decide +kernel
theorem dX7_made_103 : decode cX7_made 103 = .ok (.iload_n 3, 1) := by decide +kernel
theorem dX7_made_104 : decode cX7_made 104 = .ok (.iastore, 1) := by decide +kernel
theorem dX7_made_105 : decode cX7_made 105 = .ok (.aload_n 0, 1) := by decide +kernel
theorem dX7_made_106 : decode cX7_made 106 = .ok (.getfield 20, 3) := by decide +kernel
theorem dX7_made_109 : decode cX7_made 109 = .ok (.iload 5, 2) := by decide +kernel
theorem dX7_made_111 : decode cX7_made 111 = .ok (.iload 4, 2) := by decide +kernel
theorem dX7_made_113 : decode cX7_made 113 = .ok (.iastore, 1) := by decide +kernel
theorem dX7_made_114 : decode cX7_made 114 = .ok (.aload_n 0, 1) := by decide +kernel
theorem dX7_made_115 : decode cX7_made 115 = .ok (.getfield 23, 3) := by decide +kernel
theorem dX7_made_118 : decode cX7_made 118 = .ok (.iload 5, 2) := by decide +kernel
theorem dX7_made_120 : decode cX7_made 120 = .ok (.aload_n 0, 1) := by decide +kernel
theorem dX7_made_121 : decode cX7_made 121 = .ok (.iload_n 1, 1) := by decide +kernel
theorem dX7_made_122 : decode cX7_made 122 = .ok (.iload_n 2, 1) := by decide +kernel
theorem dX7_made_123 : decode cX7_made 123 = .ok (.iload_n 3, 1) := by decide +kernel
theorem dX7_made_124 : decode cX7_made 124 = .ok (.invokevirtual 108, 3) := by decide +kernel
theorem dX7_made_127 : decode cX7_made 127 = .ok (.iastore, 1) := by decide +kernel
theorem dX7_made_128 : decode cX7_made 128 = .ok (.aload_n 0, 1) := by decide +kernel
theorem dX7_made_129 : decode cX7_made 129 = .ok (.dup, 1) := by decide +kernel
theorem dX7_made_130 : decode cX7_made 130 = .ok (.getfield 87, 3) := by decide +kernel
theorem dX7_made_133 : decode cX7_made 133 = .ok (.iconst 1, 1) := by decide +kernel
theorem dX7_made_134 : decode cX7_made 134 = .ok (.iadd, 1) := by decide +kernel
theorem dX7_made_135 : decode cX7_made 135 = .ok (.putfield 87, 3) := by decide +kernel
theorem dX7_made_138 : decode cX7_made 138 = .ok (.iload 5, 2) := by decide +kernel
theorem dX7_made_140 : decode cX7_made 140 = .ok (.ireturn, 1) := by decide +kernel
theorem dX7_makes_0 : decode cX7_makes 0 = .ok (.aload_n 0, 1) := by decide +kernel
theorem dX7_makes_1 : decode cX7_makes 1 = .ok (.iload_n 1, 1) := by decide +kernel
theorem dX7_makes_2 : decode cX7_makes 2 = .ok (.iload_n 2, 1) := by decide +kernel
theorem dX7_makes_3 : decode cX7_makes 3 = .ok (.iload_n 3, 1) := by decide +kernel
theorem dX7_makes_4 : decode cX7_makes 4 = .ok (.invokevirtual 111, 3) := by decide +kernel
theorem dX7_makes_7 : decode cX7_makes 7 = .ok (.istore 5, 2) := by decide +kernel
theorem dX7_makes_9 : decode cX7_makes 9 = .ok (.aload_n 0, 1) := by decide +kernel
theorem dX7_makes_10 : decode cX7_makes 10 = .ok (.iload 5, 2) := by decide +kernel
theorem dX7_makes_12 : decode cX7_makes 12 = .ok (.iconst (-1), 1) := by decide +kernel
theorem dX7_makes_13 : decode cX7_makes 13 = .ok (.if_icmp .ne 8, 3) := by decide +kernel
theorem dX7_makes_16 : decode cX7_makes 16 = .ok (.iload 4, 2) := by decide +kernel
theorem dX7_makes_18 : decode cX7_makes 18 = .ok (.goto 4, 3) := by decide +kernel
theorem dX7_makes_21 : decode cX7_makes 21 = .ok (.iconst 0, 1) := by decide +kernel
theorem dX7_makes_22 : decode cX7_makes 22 = .ok (.putfield 84, 3) := by decide +kernel
theorem dX7_makes_25 : decode cX7_makes 25 = .ok (.iload 5, 2) := by decide +kernel
theorem dX7_makes_27 : decode cX7_makes 27 = .ok (.iconst (-1), 1) := by decide +kernel
theorem dX7_makes_28 : decode cX7_makes 28 = .ok (.if_icmp .ne 7, 3) := by decide +kernel
theorem dX7_makes_31 : decode cX7_makes 31 = .ok (.iconst 0, 1) := by decide +kernel
theorem dX7_makes_32 : decode cX7_makes 32 = .ok (.goto 5, 3) := by decide +kernel
theorem dX7_makes_35 : decode cX7_makes 35 = .ok (.iload 5, 2) := by decide +kernel
theorem dX7_makes_37 : decode cX7_makes 37 = .ok (.ireturn, 1) := by decide +kernel
theorem dX7_writes_0 : decode cX7_writes 0 = .ok (.aload_n 0, 1) := by decide +kernel
theorem dX7_writes_1 : decode cX7_writes 1 = .ok (.getfield 69, 3) := by decide +kernel
theorem dX7_writes_4 : decode cX7_writes 4 = .ok (.aload_n 0, 1) := by decide +kernel
theorem dX7_writes_5 : decode cX7_writes 5 = .ok (.getfield 114, 3) := by decide +kernel
theorem dX7_writes_8 : decode cX7_writes 8 = .ok (.aload_n 0, 1) := by decide +kernel
theorem dX7_writes_9 : decode cX7_writes 9 = .ok (.getfield 9, 3) := by decide +kernel
theorem dX7_writes_12 : decode cX7_writes 12 = .ok (.iload_n 1, 1) := by decide +kernel
theorem dX7_writes_13 : decode cX7_writes 13 = .ok (.caload, 1) := by decide +kernel
theorem dX7_writes_14 : decode cX7_writes 14 = .ok (.castore, 1) := by decide +kernel
theorem dX7_writes_15 : decode cX7_writes 15 = .ok (.aload_n 0, 1) := by decide +kernel
theorem dX7_writes_16 : decode cX7_writes 16 = .ok (.dup, 1) := by decide +kernel
theorem dX7_writes_17 : decode cX7_writes 17 = .ok (.getfield 114, 3) := by decide +kernel
theorem dX7_writes_20 : decode cX7_writes 20 = .ok (.iconst 1, 1) := by decide +kernel
theorem dX7_writes_21 : decode cX7_writes 21 = .ok (.iadd, 1) := by decide +kernel
theorem dX7_writes_22 : decode cX7_writes 22 = .ok (.putfield 114, 3) := by decide +kernel
theorem dX7_writes_25 : decode cX7_writes 25 = .ok (.aload_n 0, 1) := by decide +kernel
theorem dX7_writes_26 : decode cX7_writes 26 = .ok (.getfield 13, 3) := by decide +kernel
theorem dX7_writes_29 : decode cX7_writes 29 = .ok (.iload_n 1, 1) := by decide +kernel
theorem dX7_writes_30 : decode cX7_writes 30 = .ok (.iaload, 1) := by decide +kernel
theorem dX7_writes_31 : decode cX7_writes 31 = .ok (.iconst (-1), 1) := by decide +kernel
theorem dX7_writes_32 : decode cX7_writes 32 = .ok (.if_icmp .eq 13, 3) := by decide +kernel
theorem dX7_writes_35 : decode cX7_writes 35 = .ok (.aload_n 0, 1) := by decide +kernel
theorem dX7_writes_36 : decode cX7_writes 36 = .ok (.aload_n 0, 1) := by decide +kernel
theorem dX7_writes_37 : decode cX7_writes 37 = .ok (.getfield 13, 3) := by decide +kernel
theorem dX7_writes_40 : decode cX7_writes 40 = .ok (.iload_n 1, 1) := by decide +kernel
theorem dX7_writes_41 : decode cX7_writes 41 = .ok (.iaload, 1) := by decide +kernel
theorem dX7_writes_42 : decode cX7_writes 42 = .ok (.invokevirtual 117, 3) := by decide +kernel
theorem dX7_writes_45 : decode cX7_writes 45 = .ok (.aload_n 0, 1) := by decide +kernel
theorem dX7_writes_46 : decode cX7_writes 46 = .ok (.getfield 17, 3) := by decide +kernel
theorem dX7_writes_49 : decode cX7_writes 49 = .ok (.iload_n 1, 1) := by decide +kernel
theorem dX7_writes_50 : decode cX7_writes 50 = .ok (.iaload, 1) := by decide +kernel
theorem dX7_writes_51 : decode cX7_writes 51 = .ok (.iconst (-1), 1) := by decide +kernel
theorem dX7_writes_52 : decode cX7_writes 52 = .ok (.if_icmp .eq 13, 3) := by decide +kernel
theorem dX7_writes_55 : decode cX7_writes 55 = .ok (.aload_n 0, 1) := by decide +kernel
theorem dX7_writes_56 : decode cX7_writes 56 = .ok (.aload_n 0, 1) := by decide +kernel
theorem dX7_writes_57 : decode cX7_writes 57 = .ok (.getfield 17, 3) := by decide +kernel
theorem dX7_writes_60 : decode cX7_writes 60 = .ok (.iload_n 1, 1) := by decide +kernel
theorem dX7_writes_61 : decode cX7_writes 61 = .ok (.iaload, 1) := by decide +kernel
theorem dX7_writes_62 : decode cX7_writes 62 = .ok (.invokevirtual 117, 3) := by decide +kernel
theorem dX7_writes_65 : decode cX7_writes 65 = .ok (.return_, 1) := by decide +kernel
theorem dX7_reads_0 : decode cX7_reads 0 = .ok (.aload_n 0, 1) := by decide +kernel
theorem dX7_reads_1 : decode cX7_reads 1 = .ok (.getfield 69, 3) := by decide +kernel
theorem dX7_reads_4 : decode cX7_reads 4 = .ok (.aload_n 0, 1) := by decide +kernel
theorem dX7_reads_5 : decode cX7_reads 5 = .ok (.getfield 121, 3) := by decide +kernel
theorem dX7_reads_8 : decode cX7_reads 8 = .ok (.caload, 1) := by decide +kernel
theorem dX7_reads_9 : decode cX7_reads 9 = .ok (.istore_n 1, 1) := by decide +kernel
theorem dX7_reads_10 : decode cX7_reads 10 = .ok (.aload_n 0, 1) := by decide +kernel
theorem dX7_reads_11 : decode cX7_reads 11 = .ok (.dup, 1) := by decide +kernel
theorem dX7_reads_12 : decode cX7_reads 12 = .ok (.getfield 121, 3) := by decide +kernel
theorem dX7_reads_15 : decode cX7_reads 15 = .ok (.iconst 1, 1) := by decide +kernel
theorem dX7_reads_16 : decode cX7_reads 16 = .ok (.iadd, 1) := by decide +kernel
theorem dX7_reads_17 : decode cX7_reads 17 = .ok (.putfield 121, 3) := by decide +kernel
theorem dX7_reads_20 : decode cX7_reads 20 = .ok (.iconst (-1), 1) := by decide +kernel
theorem dX7_reads_21 : decode cX7_reads 21 = .ok (.istore_n 2, 1) := by decide +kernel
theorem dX7_reads_22 : decode cX7_reads 22 = .ok (.iconst (-1), 1) := by decide +kernel
theorem dX7_reads_23 : decode cX7_reads 23 = .ok (.istore_n 3, 1) := by decide +kernel
theorem dX7_reads_24 : decode cX7_reads 24 = .ok (.iload_n 1, 1) := by decide +kernel
theorem dX7_reads_25 : decode cX7_reads 25 = .ok (.bipush 65, 2) := by decide +kernel
theorem dX7_reads_27 : decode cX7_reads 27 = .ok (.if_icmp .lt 45, 3) := by decide +kernel
theorem dX7_reads_30 : decode cX7_reads 30 = .ok (.iload_n 1, 1) := by decide +kernel
theorem dX7_reads_31 : decode cX7_reads 31 = .ok (.bipush 70, 2) := by decide +kernel
theorem dX7_reads_33 : decode cX7_reads 33 = .ok (.if_icmp .eq 39, 3) := by decide +kernel
theorem dX7_reads_36 : decode cX7_reads 36 = .ok (.iload_n 1, 1) := by decide +kernel
theorem dX7_reads_37 : decode cX7_reads 37 = .ok (.bipush 97, 2) := by decide +kernel
theorem dX7_reads_39 : decode cX7_reads 39 = .ok (.if_icmp .ge 33, 3) := by decide +kernel
theorem dX7_reads_42 : decode cX7_reads 42 = .ok (.aload_n 0, 1) := by decide +kernel
theorem dX7_reads_43 : decode cX7_reads 43 = .ok (.invokevirtual 124, 3) := by decide +kernel
theorem dX7_reads_46 : decode cX7_reads 46 = .ok (.istore_n 2, 1) := by decide +kernel
theorem dX7_reads_47 : decode cX7_reads 47 = .ok (.iload_n 2, 1) := by decide +kernel
theorem dX7_reads_48 : decode cX7_reads 48 = .ok (.iconst (-1), 1) := by decide +kernel
theorem dX7_reads_49 : decode cX7_reads 49 = .ok (.if_icmp .ne 5, 3) := by decide +kernel
theorem dX7_reads_52 : decode cX7_reads 52 = .ok (.iconst (-1), 1) := by decide +kernel
theorem dX7_reads_53 : decode cX7_reads 53 = .ok (.ireturn, 1) := by decide +kernel
theorem dX7_reads_54 : decode cX7_reads 54 = .ok (.iload_n 1, 1) := by decide +kernel
theorem dX7_reads_55 : decode cX7_reads 55 = .ok (.bipush 78, 2) := by decide +kernel
theorem dX7_reads_57 : decode cX7_reads 57 = .ok (.if_icmp .eq 15, 3) := by decide +kernel
theorem dX7_reads_60 : decode cX7_reads 60 = .ok (.aload_n 0, 1) := by decide +kernel
theorem dX7_reads_61 : decode cX7_reads 61 = .ok (.invokevirtual 124, 3) := by decide +kernel
theorem dX7_reads_64 : decode cX7_reads 64 = .ok (.istore_n 3, 1) := by decide +kernel
theorem dX7_reads_65 : decode cX7_reads 65 = .ok (.iload_n 3, 1) := by decide +kernel
theorem dX7_reads_66 : decode cX7_reads 66 = .ok (.iconst (-1), 1) := by decide +kernel
theorem dX7_reads_67 : decode cX7_reads 67 = .ok (.if_icmp .ne 5, 3) := by decide +kernel
theorem dX7_reads_70 : decode cX7_reads 70 = .ok (.iconst (-1), 1) := by decide +kernel
theorem dX7_reads_71 : decode cX7_reads 71 = .ok (.ireturn, 1) := by decide +kernel
theorem dX7_reads_72 : decode cX7_reads 72 = .ok (.aload_n 0, 1) := by decide +kernel
theorem dX7_reads_73 : decode cX7_reads 73 = .ok (.iload_n 1, 1) := by decide +kernel
theorem dX7_reads_74 : decode cX7_reads 74 = .ok (.iload_n 2, 1) := by decide +kernel
theorem dX7_reads_75 : decode cX7_reads 75 = .ok (.iload_n 3, 1) := by decide +kernel
theorem dX7_reads_76 : decode cX7_reads 76 = .ok (.invokevirtual 111, 3) := by decide +kernel
theorem dX7_reads_79 : decode cX7_reads 79 = .ok (.ireturn, 1) := by decide +kernel
theorem dX7_makesWork_0 : decode cX7_makesWork 0 = .ok (.aload_n 0, 1) := by decide +kernel
theorem dX7_makesWork_1 : decode cX7_makesWork 1 = .ok (.getfield 87, 3) := by decide +kernel
theorem dX7_makesWork_4 : decode cX7_makesWork 4 = .ok (.istore_n 1, 1) := by decide +kernel
theorem dX7_makesWork_5 : decode cX7_makesWork 5 = .ok (.aload_n 0, 1) := by decide +kernel
theorem dX7_makesWork_6 : decode cX7_makesWork 6 = .ok (.iconst 0, 1) := by decide +kernel
theorem dX7_makesWork_7 : decode cX7_makesWork 7 = .ok (.putfield 121, 3) := by decide +kernel
theorem dX7_makesWork_10 : decode cX7_makesWork 10 = .ok (.aload_n 0, 1) := by decide +kernel
theorem dX7_makesWork_11 : decode cX7_makesWork 11 = .ok (.getfield 114, 3) := by decide +kernel
theorem dX7_makesWork_14 : decode cX7_makesWork 14 = .ok (.bipush 30, 2) := by decide +kernel
theorem dX7_makesWork_16 : decode cX7_makesWork 16 = .ok (.if_icmp .le 7, 3) := by decide +kernel
theorem dX7_makesWork_19 : decode cX7_makesWork 19 = .ok (.iconst (-1), 1) := by decide +kernel
theorem dX7_makesWork_20 : decode cX7_makesWork 20 = .ok (.goto 7, 3) := by decide +kernel
theorem dX7_makesWork_23 : decode cX7_makesWork 23 = .ok (.aload_n 0, 1) := by decide +kernel
theorem dX7_makesWork_24 : decode cX7_makesWork 24 = .ok (.invokevirtual 124, 3) := by decide +kernel
theorem dX7_makesWork_27 : decode cX7_makesWork 27 = .ok (.istore_n 2, 1) := by decide +kernel
theorem dX7_makesWork_28 : decode cX7_makesWork 28 = .ok (.aload_n 0, 1) := by decide +kernel
theorem dX7_makesWork_29 : decode cX7_makesWork 29 = .ok (.iload_n 2, 1) := by decide +kernel
theorem dX7_makesWork_30 : decode cX7_makesWork 30 = .ok (.iconst (-1), 1) := by decide +kernel
theorem dX7_makesWork_31 : decode cX7_makesWork 31 = .ok (.if_icmp .ne 7, 3) := by decide +kernel
theorem dX7_makesWork_34 : decode cX7_makesWork 34 = .ok (.iload_n 1, 1) := by decide +kernel
theorem dX7_makesWork_35 : decode cX7_makesWork 35 = .ok (.goto 7, 3) := by decide +kernel
theorem dX7_makesWork_38 : decode cX7_makesWork 38 = .ok (.aload_n 0, 1) := by decide +kernel
theorem dX7_makesWork_39 : decode cX7_makesWork 39 = .ok (.getfield 87, 3) := by decide +kernel
theorem dX7_makesWork_42 : decode cX7_makesWork 42 = .ok (.putfield 87, 3) := by decide +kernel
theorem dX7_makesWork_45 : decode cX7_makesWork 45 = .ok (.iload_n 2, 1) := by decide +kernel
theorem dX7_makesWork_46 : decode cX7_makesWork 46 = .ok (.ireturn, 1) := by decide +kernel
theorem dX7_letter_0 : decode cX7_letter 0 = .ok (.iload_n 1, 1) := by decide +kernel
theorem dX7_letter_1 : decode cX7_letter 1 = .ok (.iconst 0, 1) := by decide +kernel
theorem dX7_letter_2 : decode cX7_letter 2 = .ok (.iconst 4, 1) := by decide +kernel
theorem dX7_letter_3 : decode cX7_letter 3 = .ok (.invokestatic 90, 3) := by decide +kernel
theorem dX7_letter_6 : decode cX7_letter 6 = .ok (.ifCond .eq 18, 3) := by decide +kernel
theorem dX7_letter_9 : decode cX7_letter 9 = .ok (.aload_n 0, 1) := by decide +kernel
theorem dX7_letter_10 : decode cX7_letter 10 = .ok (.bipush 97, 2) := by decide +kernel
theorem dX7_letter_12 : decode cX7_letter 12 = .ok (.iload_n 1, 1) := by decide +kernel
theorem dX7_letter_13 : decode cX7_letter 13 = .ok (.iadd, 1) := by decide +kernel
theorem dX7_letter_14 : decode cX7_letter 14 = .ok (.i2c, 1) := by decide +kernel
theorem dX7_letter_15 : decode cX7_letter 15 = .ok (.iconst (-1), 1) := by decide +kernel
theorem dX7_letter_16 : decode cX7_letter 16 = .ok (.iconst (-1), 1) := by decide +kernel
theorem dX7_letter_17 : decode cX7_letter 17 = .ok (.iconst 2, 1) := by decide +kernel
theorem dX7_letter_18 : decode cX7_letter 18 = .ok (.invokevirtual 128, 3) := by decide +kernel
theorem dX7_letter_21 : decode cX7_letter 21 = .ok (.goto 8, 3) := by decide +kernel
theorem dX7_letter_24 : decode cX7_letter 24 = .ok (.aload_n 0, 1) := by decide +kernel
theorem dX7_letter_25 : decode cX7_letter 25 = .ok (.iconst 1, 1) := by decide +kernel
theorem dX7_letter_26 : decode cX7_letter 26 = .ok (.invokevirtual 132, 3) := by decide +kernel
theorem dX7_letter_29 : decode cX7_letter 29 = .ok (.ireturn, 1) := by decide +kernel
theorem dX7_falsum_0 : decode cX7_falsum 0 = .ok (.aload_n 0, 1) := by decide +kernel
theorem dX7_falsum_1 : decode cX7_falsum 1 = .ok (.bipush 70, 2) := by decide +kernel
theorem dX7_falsum_3 : decode cX7_falsum 3 = .ok (.iconst (-1), 1) := by decide +kernel
theorem dX7_falsum_4 : decode cX7_falsum 4 = .ok (.iconst (-1), 1) := by decide +kernel
theorem dX7_falsum_5 : decode cX7_falsum 5 = .ok (.iconst 1, 1) := by decide +kernel
theorem dX7_falsum_6 : decode cX7_falsum 6 = .ok (.invokevirtual 128, 3) := by decide +kernel
theorem dX7_falsum_9 : decode cX7_falsum 9 = .ok (.ireturn, 1) := by decide +kernel
theorem dX7_negation_0 : decode cX7_negation 0 = .ok (.aload_n 0, 1) := by decide +kernel
theorem dX7_negation_1 : decode cX7_negation 1 = .ok (.iload_n 1, 1) := by decide +kernel
theorem dX7_negation_2 : decode cX7_negation 2 = .ok (.invokevirtual 135, 3) := by decide +kernel
theorem dX7_negation_5 : decode cX7_negation 5 = .ok (.ifCond .eq 15, 3) := by decide +kernel
theorem dX7_negation_8 : decode cX7_negation 8 = .ok (.aload_n 0, 1) := by decide +kernel
theorem dX7_negation_9 : decode cX7_negation 9 = .ok (.bipush 78, 2) := by decide +kernel
theorem dX7_negation_11 : decode cX7_negation 11 = .ok (.iload_n 1, 1) := by decide +kernel
theorem dX7_negation_12 : decode cX7_negation 12 = .ok (.iconst (-1), 1) := by decide +kernel
theorem dX7_negation_13 : decode cX7_negation 13 = .ok (.iconst 2, 1) := by decide +kernel
theorem dX7_negation_14 : decode cX7_negation 14 = .ok (.invokevirtual 128, 3) := by decide +kernel
theorem dX7_negation_17 : decode cX7_negation 17 = .ok (.goto 8, 3) := by decide +kernel
theorem dX7_negation_20 : decode cX7_negation 20 = .ok (.aload_n 0, 1) := by decide +kernel
theorem dX7_negation_21 : decode cX7_negation 21 = .ok (.iconst 1, 1) := by decide +kernel
theorem dX7_negation_22 : decode cX7_negation 22 = .ok (.invokevirtual 132, 3) := by decide +kernel
theorem dX7_negation_25 : decode cX7_negation 25 = .ok (.ireturn, 1) := by decide +kernel
theorem dX7_makesTwo_0 : decode cX7_makesTwo 0 = .ok (.aload_n 0, 1) := by decide +kernel
theorem dX7_makesTwo_1 : decode cX7_makesTwo 1 = .ok (.iload_n 2, 1) := by decide +kernel
theorem dX7_makesTwo_2 : decode cX7_makesTwo 2 = .ok (.invokevirtual 135, 3) := by decide +kernel
theorem dX7_makesTwo_5 : decode cX7_makesTwo 5 = .ok (.ifCond .eq 22, 3) := by decide +kernel
theorem dX7_makesTwo_8 : decode cX7_makesTwo 8 = .ok (.aload_n 0, 1) := by decide +kernel
theorem dX7_makesTwo_9 : decode cX7_makesTwo 9 = .ok (.iload_n 3, 1) := by decide +kernel
theorem dX7_makesTwo_10 : decode cX7_makesTwo 10 = .ok (.invokevirtual 135, 3) := by decide +kernel
theorem dX7_makesTwo_13 : decode cX7_makesTwo 13 = .ok (.ifCond .eq 14, 3) := by decide +kernel
theorem dX7_makesTwo_16 : decode cX7_makesTwo 16 = .ok (.aload_n 0, 1) := by decide +kernel
theorem dX7_makesTwo_17 : decode cX7_makesTwo 17 = .ok (.iload_n 1, 1) := by decide +kernel
theorem dX7_makesTwo_18 : decode cX7_makesTwo 18 = .ok (.iload_n 2, 1) := by decide +kernel
theorem dX7_makesTwo_19 : decode cX7_makesTwo 19 = .ok (.iload_n 3, 1) := by decide +kernel
theorem dX7_makesTwo_20 : decode cX7_makesTwo 20 = .ok (.iconst 2, 1) := by decide +kernel
theorem dX7_makesTwo_21 : decode cX7_makesTwo 21 = .ok (.invokevirtual 128, 3) := by decide +kernel
theorem dX7_makesTwo_24 : decode cX7_makesTwo 24 = .ok (.goto 8, 3) := by decide +kernel
theorem dX7_makesTwo_27 : decode cX7_makesTwo 27 = .ok (.aload_n 0, 1) := by decide +kernel
theorem dX7_makesTwo_28 : decode cX7_makesTwo 28 = .ok (.iconst 1, 1) := by decide +kernel
theorem dX7_makesTwo_29 : decode cX7_makesTwo 29 = .ok (.invokevirtual 132, 3) := by decide +kernel
theorem dX7_makesTwo_32 : decode cX7_makesTwo 32 = .ok (.ireturn, 1) := by decide +kernel
theorem dX7_conjunction_0 : decode cX7_conjunction 0 = .ok (.aload_n 0, 1) := by decide +kernel
theorem dX7_conjunction_1 : decode cX7_conjunction 1 = .ok (.bipush 75, 2) := by decide +kernel
theorem dX7_conjunction_3 : decode cX7_conjunction 3 = .ok (.iload_n 1, 1) := by decide +kernel
theorem dX7_conjunction_4 : decode cX7_conjunction 4 = .ok (.iload_n 2, 1) := by decide +kernel
theorem dX7_conjunction_5 : decode cX7_conjunction 5 = .ok (.invokevirtual 139, 3) := by decide +kernel
theorem dX7_conjunction_8 : decode cX7_conjunction 8 = .ok (.ireturn, 1) := by decide +kernel
theorem dX7_disjunction_0 : decode cX7_disjunction 0 = .ok (.aload_n 0, 1) := by decide +kernel
theorem dX7_disjunction_1 : decode cX7_disjunction 1 = .ok (.bipush 65, 2) := by decide +kernel
theorem dX7_disjunction_3 : decode cX7_disjunction 3 = .ok (.iload_n 1, 1) := by decide +kernel
theorem dX7_disjunction_4 : decode cX7_disjunction 4 = .ok (.iload_n 2, 1) := by decide +kernel
theorem dX7_disjunction_5 : decode cX7_disjunction 5 = .ok (.invokevirtual 139, 3) := by decide +kernel
theorem dX7_disjunction_8 : decode cX7_disjunction 8 = .ok (.ireturn, 1) := by decide +kernel
theorem dX7_implication_0 : decode cX7_implication 0 = .ok (.aload_n 0, 1) := by decide +kernel
theorem dX7_implication_1 : decode cX7_implication 1 = .ok (.bipush 67, 2) := by decide +kernel
theorem dX7_implication_3 : decode cX7_implication 3 = .ok (.iload_n 1, 1) := by decide +kernel
theorem dX7_implication_4 : decode cX7_implication 4 = .ok (.iload_n 2, 1) := by decide +kernel
theorem dX7_implication_5 : decode cX7_implication 5 = .ok (.invokevirtual 139, 3) := by decide +kernel
theorem dX7_implication_8 : decode cX7_implication 8 = .ok (.ireturn, 1) := by decide +kernel
theorem dX7_formulas_0 : decode cX7_formulas 0 = .ok (.aload_n 0, 1) := by decide +kernel
theorem dX7_formulas_1 : decode cX7_formulas 1 = .ok (.iconst 0, 1) := by decide +kernel
theorem dX7_formulas_2 : decode cX7_formulas 2 = .ok (.putfield 84, 3) := by decide +kernel
theorem dX7_formulas_5 : decode cX7_formulas 5 = .ok (.aload_n 0, 1) := by decide +kernel
theorem dX7_formulas_6 : decode cX7_formulas 6 = .ok (.getfield 87, 3) := by decide +kernel
theorem dX7_formulas_9 : decode cX7_formulas 9 = .ok (.ireturn, 1) := by decide +kernel
theorem dX7_lacks_0 : decode cX7_lacks 0 = .ok (.aload_n 0, 1) := by decide +kernel
theorem dX7_lacks_1 : decode cX7_lacks 1 = .ok (.aload_n 0, 1) := by decide +kernel
theorem dX7_lacks_2 : decode cX7_lacks 2 = .ok (.iload_n 1, 1) := by decide +kernel
theorem dX7_lacks_3 : decode cX7_lacks 3 = .ok (.invokevirtual 135, 3) := by decide +kernel
theorem dX7_lacks_6 : decode cX7_lacks 6 = .ok (.ifCond .eq 7, 3) := by decide +kernel
theorem dX7_lacks_9 : decode cX7_lacks 9 = .ok (.iconst 0, 1) := by decide +kernel
theorem dX7_lacks_10 : decode cX7_lacks 10 = .ok (.goto 4, 3) := by decide +kernel
theorem dX7_lacks_13 : decode cX7_lacks 13 = .ok (.iconst 1, 1) := by decide +kernel
theorem dX7_lacks_14 : decode cX7_lacks 14 = .ok (.putfield 84, 3) := by decide +kernel
theorem dX7_lacks_17 : decode cX7_lacks 17 = .ok (.aload_n 0, 1) := by decide +kernel
theorem dX7_lacks_18 : decode cX7_lacks 18 = .ok (.getfield 84, 3) := by decide +kernel
theorem dX7_lacks_21 : decode cX7_lacks 21 = .ok (.ifCond .le 7, 3) := by decide +kernel
theorem dX7_lacks_24 : decode cX7_lacks 24 = .ok (.iconst 1, 1) := by decide +kernel
theorem dX7_lacks_25 : decode cX7_lacks 25 = .ok (.goto 4, 3) := by decide +kernel
theorem dX7_lacks_28 : decode cX7_lacks 28 = .ok (.iconst 0, 1) := by decide +kernel
theorem dX7_lacks_29 : decode cX7_lacks 29 = .ok (.ireturn, 1) := by decide +kernel
theorem dX7_sizeOf_0 : decode cX7_sizeOf 0 = .ok (.aload_n 0, 1) := by decide +kernel
theorem dX7_sizeOf_1 : decode cX7_sizeOf 1 = .ok (.iload_n 1, 1) := by decide +kernel
theorem dX7_sizeOf_2 : decode cX7_sizeOf 2 = .ok (.invokevirtual 142, 3) := by decide +kernel
theorem dX7_sizeOf_5 : decode cX7_sizeOf 5 = .ok (.ifCond .eq 7, 3) := by decide +kernel
theorem dX7_sizeOf_8 : decode cX7_sizeOf 8 = .ok (.iconst 0, 1) := by decide +kernel
theorem dX7_sizeOf_9 : decode cX7_sizeOf 9 = .ok (.goto 9, 3) := by decide +kernel
theorem dX7_sizeOf_12 : decode cX7_sizeOf 12 = .ok (.aload_n 0, 1) := by decide +kernel
theorem dX7_sizeOf_13 : decode cX7_sizeOf 13 = .ok (.getfield 20, 3) := by decide +kernel
theorem dX7_sizeOf_16 : decode cX7_sizeOf 16 = .ok (.iload_n 1, 1) := by decide +kernel
theorem dX7_sizeOf_17 : decode cX7_sizeOf 17 = .ok (.iaload, 1) := by decide +kernel
theorem dX7_sizeOf_18 : decode cX7_sizeOf 18 = .ok (.ireturn, 1) := by decide +kernel
theorem dX7_symbolAt_0 : decode cX7_symbolAt 0 = .ok (.aload_n 0, 1) := by decide +kernel
theorem dX7_symbolAt_1 : decode cX7_symbolAt 1 = .ok (.iload_n 1, 1) := by decide +kernel
theorem dX7_symbolAt_2 : decode cX7_symbolAt 2 = .ok (.invokevirtual 142, 3) := by decide +kernel
theorem dX7_symbolAt_5 : decode cX7_symbolAt 5 = .ok (.ifCond .eq 6, 3) := by decide +kernel
theorem dX7_symbolAt_8 : decode cX7_symbolAt 8 = .ok (.bipush 32, 2) := by decide +kernel
theorem dX7_symbolAt_10 : decode cX7_symbolAt 10 = .ok (.ireturn, 1) := by decide +kernel
theorem dX7_symbolAt_11 : decode cX7_symbolAt 11 = .ok (.aload_n 0, 1) := by decide +kernel
theorem dX7_symbolAt_12 : decode cX7_symbolAt 12 = .ok (.iconst 0, 1) := by decide +kernel
theorem dX7_symbolAt_13 : decode cX7_symbolAt 13 = .ok (.putfield 114, 3) := by decide +kernel
theorem dX7_symbolAt_16 : decode cX7_symbolAt 16 = .ok (.aload_n 0, 1) := by decide +kernel
theorem dX7_symbolAt_17 : decode cX7_symbolAt 17 = .ok (.iload_n 1, 1) := by decide +kernel
theorem dX7_symbolAt_18 : decode cX7_symbolAt 18 = .ok (.invokevirtual 117, 3) := by decide +kernel
theorem dX7_symbolAt_21 : decode cX7_symbolAt 21 = .ok (.aload_n 0, 1) := by decide +kernel
theorem dX7_symbolAt_22 : decode cX7_symbolAt 22 = .ok (.iload_n 2, 1) := by decide +kernel
theorem dX7_symbolAt_23 : decode cX7_symbolAt 23 = .ok (.iconst 0, 1) := by decide +kernel
theorem dX7_symbolAt_24 : decode cX7_symbolAt 24 = .ok (.aload_n 0, 1) := by decide +kernel
theorem dX7_symbolAt_25 : decode cX7_symbolAt 25 = .ok (.getfield 114, 3) := by decide +kernel
theorem dX7_symbolAt_28 : decode cX7_symbolAt 28 = .ok (.iconst 1, 1) := by decide +kernel
theorem dX7_symbolAt_29 : decode cX7_symbolAt 29 = .ok (.isub, 1) := by decide +kernel
theorem dX7_symbolAt_30 : decode cX7_symbolAt 30 = .ok (.invokestatic 90, 3) := by decide +kernel
theorem dX7_symbolAt_33 : decode cX7_symbolAt 33 = .ok (.ifCond .eq 7, 3) := by decide +kernel
theorem dX7_symbolAt_36 : decode cX7_symbolAt 36 = .ok (.iconst 0, 1) := by decide +kernel
theorem dX7_symbolAt_37 : decode cX7_symbolAt 37 = .ok (.goto 4, 3) := by decide +kernel
theorem dX7_symbolAt_40 : decode cX7_symbolAt 40 = .ok (.iconst 2, 1) := by decide +kernel
theorem dX7_symbolAt_41 : decode cX7_symbolAt 41 = .ok (.putfield 84, 3) := by decide +kernel
theorem dX7_symbolAt_44 : decode cX7_symbolAt 44 = .ok (.aload_n 0, 1) := by decide +kernel
theorem dX7_symbolAt_45 : decode cX7_symbolAt 45 = .ok (.getfield 84, 3) := by decide +kernel
theorem dX7_symbolAt_48 : decode cX7_symbolAt 48 = .ok (.ifCond .le 8, 3) := by decide +kernel
theorem dX7_symbolAt_51 : decode cX7_symbolAt 51 = .ok (.bipush 32, 2) := by decide +kernel
theorem dX7_symbolAt_53 : decode cX7_symbolAt 53 = .ok (.goto 9, 3) := by decide +kernel
theorem dX7_symbolAt_56 : decode cX7_symbolAt 56 = .ok (.aload_n 0, 1) := by decide +kernel
theorem dX7_symbolAt_57 : decode cX7_symbolAt 57 = .ok (.getfield 69, 3) := by decide +kernel
theorem dX7_symbolAt_60 : decode cX7_symbolAt 60 = .ok (.iload_n 2, 1) := by decide +kernel
theorem dX7_symbolAt_61 : decode cX7_symbolAt 61 = .ok (.caload, 1) := by decide +kernel
theorem dX7_symbolAt_62 : decode cX7_symbolAt 62 = .ok (.ireturn, 1) := by decide +kernel
theorem dX7_bind_0 : decode cX7_bind 0 = .ok (.aload_n 0, 1) := by decide +kernel
theorem dX7_bind_1 : decode cX7_bind 1 = .ok (.iload_n 1, 1) := by decide +kernel
theorem dX7_bind_2 : decode cX7_bind 2 = .ok (.iconst 0, 1) := by decide +kernel
theorem dX7_bind_3 : decode cX7_bind 3 = .ok (.iconst 4, 1) := by decide +kernel
theorem dX7_bind_4 : decode cX7_bind 4 = .ok (.invokestatic 90, 3) := by decide +kernel
theorem dX7_bind_7 : decode cX7_bind 7 = .ok (.ifCond .ne 7, 3) := by decide +kernel
theorem dX7_bind_10 : decode cX7_bind 10 = .ok (.iconst 1, 1) := by decide +kernel
theorem dX7_bind_11 : decode cX7_bind 11 = .ok (.goto 16, 3) := by decide +kernel
theorem dX7_bind_14 : decode cX7_bind 14 = .ok (.aload_n 0, 1) := by decide +kernel
theorem dX7_bind_15 : decode cX7_bind 15 = .ok (.iload_n 2, 1) := by decide +kernel
theorem dX7_bind_16 : decode cX7_bind 16 = .ok (.invokevirtual 135, 3) := by decide +kernel
theorem dX7_bind_19 : decode cX7_bind 19 = .ok (.ifCond .ne 7, 3) := by decide +kernel
theorem dX7_bind_22 : decode cX7_bind 22 = .ok (.iconst 2, 1) := by decide +kernel
theorem dX7_bind_23 : decode cX7_bind 23 = .ok (.goto 4, 3) := by decide +kernel
theorem dX7_bind_26 : decode cX7_bind 26 = .ok (.iconst 0, 1) := by decide +kernel
theorem dX7_bind_27 : decode cX7_bind 27 = .ok (.putfield 84, 3) := by decide +kernel
theorem dX7_bind_30 : decode cX7_bind 30 = .ok (.aload_n 0, 1) := by decide +kernel
theorem dX7_bind_31 : decode cX7_bind 31 = .ok (.getfield 84, 3) := by decide +kernel
theorem dX7_bind_34 : decode cX7_bind 34 = .ok (.ifCond .le 5, 3) := by decide +kernel
theorem dX7_bind_37 : decode cX7_bind 37 = .ok (.iconst 0, 1) := by decide +kernel
theorem dX7_bind_38 : decode cX7_bind 38 = .ok (.ireturn, 1) := by decide +kernel
theorem dX7_bind_39 : decode cX7_bind 39 = .ok (.aload_n 0, 1) := by decide +kernel
theorem dX7_bind_40 : decode cX7_bind 40 = .ok (.getfield 26, 3) := by decide +kernel
theorem dX7_bind_43 : decode cX7_bind 43 = .ok (.iload_n 1, 1) := by decide +kernel
theorem dX7_bind_44 : decode cX7_bind 44 = .ok (.iaload, 1) := by decide +kernel
theorem dX7_bind_45 : decode cX7_bind 45 = .ok (.istore_n 3, 1) := by decide +kernel
theorem dX7_bind_46 : decode cX7_bind 46 = .ok (.aload_n 0, 1) := by decide +kernel
theorem dX7_bind_47 : decode cX7_bind 47 = .ok (.getfield 26, 3) := by decide +kernel
theorem dX7_bind_50 : decode cX7_bind 50 = .ok (.iload_n 1, 1) := by decide +kernel
theorem dX7_bind_51 : decode cX7_bind 51 = .ok (.iload_n 2, 1) := by decide +kernel
theorem dX7_bind_52 : decode cX7_bind 52 = .ok (.iastore, 1) := by decide +kernel
theorem dX7_bind_53 : decode cX7_bind 53 = .ok (.iload_n 3, 1) := by decide +kernel
theorem dX7_bind_54 : decode cX7_bind 54 = .ok (.ireturn, 1) := by decide +kernel
theorem dX7_mayCite_0 : decode cX7_mayCite 0 = .ok (.aload_n 0, 1) := by decide +kernel
theorem dX7_mayCite_1 : decode cX7_mayCite 1 = .ok (.getfield 35, 3) := by decide +kernel
theorem dX7_mayCite_4 : decode cX7_mayCite 4 = .ok (.iload_n 1, 1) := by decide +kernel
theorem dX7_mayCite_5 : decode cX7_mayCite 5 = .ok (.iaload, 1) := by decide +kernel
theorem dX7_mayCite_6 : decode cX7_mayCite 6 = .ok (.iconst (-1), 1) := by decide +kernel
theorem dX7_mayCite_7 : decode cX7_mayCite 7 = .ok (.if_icmp .eq 17, 3) := by decide +kernel
theorem dX7_mayCite_10 : decode cX7_mayCite 10 = .ok (.aload_n 0, 1) := by decide +kernel
theorem dX7_mayCite_11 : decode cX7_mayCite 11 = .ok (.getfield 46, 3) := by decide +kernel
theorem dX7_mayCite_14 : decode cX7_mayCite 14 = .ok (.aload_n 0, 1) := by decide +kernel
theorem dX7_mayCite_15 : decode cX7_mayCite 15 = .ok (.getfield 35, 3) := by decide +kernel
theorem dX7_mayCite_18 : decode cX7_mayCite 18 = .ok (.iload_n 1, 1) := by decide +kernel
theorem dX7_mayCite_19 : decode cX7_mayCite 19 = .ok (.iaload, 1) := by decide +kernel
theorem dX7_mayCite_20 : decode cX7_mayCite 20 = .ok (.baload, 1) := by decide +kernel
theorem dX7_mayCite_21 : decode cX7_mayCite 21 = .ok (.ifCond .eq 7, 3) := by decide +kernel
theorem dX7_mayCite_24 : decode cX7_mayCite 24 = .ok (.iconst 1, 1) := by decide +kernel
theorem dX7_mayCite_25 : decode cX7_mayCite 25 = .ok (.goto 4, 3) := by decide +kernel
theorem dX7_mayCite_28 : decode cX7_mayCite 28 = .ok (.iconst 0, 1) := by decide +kernel
theorem dX7_mayCite_29 : decode cX7_mayCite 29 = .ok (.ireturn, 1) := by decide +kernel
theorem dX7_mayCiteBox_0 : decode cX7_mayCiteBox 0 = .ok (.aload_n 0, 1) := by decide +kernel
theorem dX7_mayCiteBox_1 : decode cX7_mayCiteBox 1 = .ok (.getfield 46, 3) := by decide +kernel
theorem dX7_mayCiteBox_4 : decode cX7_mayCiteBox 4 = .ok (.iload_n 1, 1) := by decide +kernel
theorem dX7_mayCiteBox_5 : decode cX7_mayCiteBox 5 = .ok (.baload, 1) := by decide +kernel
theorem dX7_mayCiteBox_6 : decode cX7_mayCiteBox 6 = .ok (.ifCond .ne 31, 3) := by decide +kernel
theorem dX7_mayCiteBox_9 : decode cX7_mayCiteBox 9 = .ok (.aload_n 0, 1) := by decide +kernel
theorem dX7_mayCiteBox_10 : decode cX7_mayCiteBox 10 = .ok (.getfield 43, 3) := by decide +kernel
theorem dX7_mayCiteBox_13 : decode cX7_mayCiteBox 13 = .ok (.iload_n 1, 1) := by decide +kernel
theorem dX7_mayCiteBox_14 : decode cX7_mayCiteBox 14 = .ok (.iaload, 1) := by decide +kernel
theorem dX7_mayCiteBox_15 : decode cX7_mayCiteBox 15 = .ok (.iconst (-1), 1) := by decide +kernel
theorem dX7_mayCiteBox_16 : decode cX7_mayCiteBox 16 = .ok (.if_icmp .eq 17, 3) := by decide +kernel
theorem dX7_mayCiteBox_19 : decode cX7_mayCiteBox 19 = .ok (.aload_n 0, 1) := by decide +kernel
theorem dX7_mayCiteBox_20 : decode cX7_mayCiteBox 20 = .ok (.getfield 46, 3) := by decide +kernel
theorem dX7_mayCiteBox_23 : decode cX7_mayCiteBox 23 = .ok (.aload_n 0, 1) := by decide +kernel
theorem dX7_mayCiteBox_24 : decode cX7_mayCiteBox 24 = .ok (.getfield 43, 3) := by decide +kernel
theorem dX7_mayCiteBox_27 : decode cX7_mayCiteBox 27 = .ok (.iload_n 1, 1) := by decide +kernel
theorem dX7_mayCiteBox_28 : decode cX7_mayCiteBox 28 = .ok (.iaload, 1) := by decide +kernel
theorem dX7_mayCiteBox_29 : decode cX7_mayCiteBox 29 = .ok (.baload, 1) := by decide +kernel
theorem dX7_mayCiteBox_30 : decode cX7_mayCiteBox 30 = .ok (.ifCond .eq 7, 3) := by decide +kernel
theorem dX7_mayCiteBox_33 : decode cX7_mayCiteBox 33 = .ok (.iconst 1, 1) := by decide +kernel
theorem dX7_mayCiteBox_34 : decode cX7_mayCiteBox 34 = .ok (.goto 4, 3) := by decide +kernel
theorem dX7_mayCiteBox_37 : decode cX7_mayCiteBox 37 = .ok (.iconst 0, 1) := by decide +kernel
theorem dX7_mayCiteBox_38 : decode cX7_mayCiteBox 38 = .ok (.ireturn, 1) := by decide +kernel
theorem dX7_enters_0 : decode cX7_enters 0 = .ok (.aload_n 0, 1) := by decide +kernel
theorem dX7_enters_1 : decode cX7_enters 1 = .ok (.iconst 0, 1) := by decide +kernel
theorem dX7_enters_2 : decode cX7_enters 2 = .ok (.putfield 84, 3) := by decide +kernel
theorem dX7_enters_5 : decode cX7_enters 5 = .ok (.aload_n 0, 1) := by decide +kernel
theorem dX7_enters_6 : decode cX7_enters 6 = .ok (.getfield 29, 3) := by decide +kernel
theorem dX7_enters_9 : decode cX7_enters 9 = .ok (.aload_n 0, 1) := by decide +kernel
theorem dX7_enters_10 : decode cX7_enters 10 = .ok (.getfield 94, 3) := by decide +kernel
theorem dX7_enters_13 : decode cX7_enters 13 = .ok (.iload_n 1, 1) := by decide +kernel
theorem dX7_enters_14 : decode cX7_enters 14 = .ok (.iastore, 1) := by decide +kernel
theorem dX7_enters_15 : decode cX7_enters 15 = .ok (.aload_n 0, 1) := by decide +kernel
theorem dX7_enters_16 : decode cX7_enters 16 = .ok (.getfield 32, 3) := by decide +kernel
theorem dX7_enters_19 : decode cX7_enters 19 = .ok (.aload_n 0, 1) := by decide +kernel
theorem dX7_enters_20 : decode cX7_enters 20 = .ok (.getfield 94, 3) := by decide +kernel
theorem dX7_enters_23 : decode cX7_enters 23 = .ok (.iload_n 2, 1) := by decide +kernel
theorem dX7_enters_24 : decode cX7_enters 24 = .ok (.castore, 1) := by decide +kernel
theorem dX7_enters_25 : decode cX7_enters 25 = .ok (.aload_n 0, 1) := by decide +kernel
theorem dX7_enters_26 : decode cX7_enters 26 = .ok (.getfield 35, 3) := by decide +kernel
theorem dX7_enters_29 : decode cX7_enters 29 = .ok (.aload_n 0, 1) := by decide +kernel
theorem dX7_enters_30 : decode cX7_enters 30 = .ok (.getfield 94, 3) := by decide +kernel
theorem dX7_enters_33 : decode cX7_enters 33 = .ok (.aload_n 0, 1) := by decide +kernel
theorem dX7_enters_34 : decode cX7_enters 34 = .ok (.getfield 56, 3) := by decide +kernel
theorem dX7_enters_37 : decode cX7_enters 37 = .ok (.iastore, 1) := by decide +kernel
theorem dX7_enters_38 : decode cX7_enters 38 = .ok (.aload_n 0, 1) := by decide +kernel
theorem dX7_enters_39 : decode cX7_enters 39 = .ok (.getfield 40, 3) := by decide +kernel
theorem dX7_enters_42 : decode cX7_enters 42 = .ok (.aload_n 0, 1) := by decide +kernel
theorem dX7_enters_43 : decode cX7_enters 43 = .ok (.getfield 94, 3) := by decide +kernel
theorem dX7_enters_46 : decode cX7_enters 46 = .ok (.aaload, 1) := by decide +kernel
theorem dX7_enters_47 : decode cX7_enters 47 = .ok (.iconst 0, 1) := by decide +kernel
theorem dX7_enters_48 : decode cX7_enters 48 = .ok (.iload_n 3, 1) := by decide +kernel
theorem dX7_enters_49 : decode cX7_enters 49 = .ok (.iastore, 1) := by decide +kernel
theorem dX7_enters_50 : decode cX7_enters 50 = .ok (.aload_n 0, 1) := by decide +kernel
theorem dX7_enters_51 : decode cX7_enters 51 = .ok (.getfield 40, 3) := by decide +kernel
theorem dX7_enters_54 : decode cX7_enters 54 = .ok (.aload_n 0, 1) := by decide +kernel
theorem dX7_enters_55 : decode cX7_enters 55 = .ok (.getfield 94, 3) := by decide +kernel
theorem dX7_enters_58 : decode cX7_enters 58 = .ok (.aaload, 1) := by decide +kernel
theorem dX7_enters_59 : decode cX7_enters 59 = .ok (.iconst 1, 1) := by decide +kernel
theorem dX7_enters_60 : decode cX7_enters 60 = .ok (.iload 4, 2) := by decide +kernel
theorem dX7_enters_62 : decode cX7_enters 62 = .ok (.iastore, 1) := by decide +kernel
theorem dX7_enters_63 : decode cX7_enters 63 = .ok (.aload_n 0, 1) := by decide +kernel
theorem dX7_enters_64 : decode cX7_enters 64 = .ok (.getfield 40, 3) := by decide +kernel
theorem dX7_enters_67 : decode cX7_enters 67 = .ok (.aload_n 0, 1) := by decide +kernel
theorem dX7_enters_68 : decode cX7_enters 68 = .ok (.getfield 94, 3) := by decide +kernel
theorem dX7_enters_71 : decode cX7_enters 71 = .ok (.aaload, 1) := by decide +kernel
theorem dX7_enters_72 : decode cX7_enters 72 = .ok (.iconst 2, 1) := by decide +kernel
theorem dX7_enters_73 : decode cX7_enters 73 = .ok (.iload 5, 2) := by decide +kernel
theorem dX7_enters_75 : decode cX7_enters 75 = .ok (.iastore, 1) := by decide +kernel
theorem dX7_enters_76 : decode cX7_enters 76 = .ok (.aload_n 0, 1) := by decide +kernel
theorem dX7_enters_77 : decode cX7_enters 77 = .ok (.getfield 40, 3) := by decide +kernel
theorem dX7_enters_80 : decode cX7_enters 80 = .ok (.aload_n 0, 1) := by decide +kernel
theorem dX7_enters_81 : decode cX7_enters 81 = .ok (.getfield 94, 3) := by decide +kernel
theorem dX7_enters_84 : decode cX7_enters 84 = .ok (.aaload, 1) := by decide +kernel
theorem dX7_enters_85 : decode cX7_enters 85 = .ok (.iconst 3, 1) := by decide +kernel
theorem dX7_enters_86 : decode cX7_enters 86 = .ok (.iload 6, 2) := by decide +kernel
theorem dX7_enters_88 : decode cX7_enters 88 = .ok (.iastore, 1) := by decide +kernel
theorem dX7_enters_89 : decode cX7_enters 89 = .ok (.aload_n 0, 1) := by decide +kernel
theorem dX7_enters_90 : decode cX7_enters 90 = .ok (.getfield 56, 3) := by decide +kernel
theorem dX7_enters_93 : decode cX7_enters 93 = .ok (.iconst (-1), 1) := by decide +kernel
theorem dX7_enters_94 : decode cX7_enters 94 = .ok (.if_icmp .eq 16, 3) := by decide +kernel
theorem dX7_enters_97 : decode cX7_enters 97 = .ok (.aload_n 0, 1) := by decide +kernel
theorem dX7_enters_98 : decode cX7_enters 98 = .ok (.getfield 53, 3) := by decide +kernel
theorem dX7_enters_101 : decode cX7_enters 101 = .ok (.aload_n 0, 1) := by decide +kernel
theorem dX7_enters_102 : decode cX7_enters 102 = .ok (.getfield 56, 3) := by decide +kernel
theorem dX7_enters_105 : decode cX7_enters 105 = .ok (.aload_n 0, 1) := by decide +kernel
theorem dX7_enters_106 : decode cX7_enters 106 = .ok (.getfield 94, 3) := by decide +kernel
theorem dX7_enters_109 : decode cX7_enters 109 = .ok (.iastore, 1) := by decide +kernel
theorem dX7_enters_110 : decode cX7_enters 110 = .ok (.aload_n 0, 1) := by decide +kernel
theorem dX7_enters_111 : decode cX7_enters 111 = .ok (.dup, 1) := by decide +kernel
theorem dX7_enters_112 : decode cX7_enters 112 = .ok (.getfield 94, 3) := by decide +kernel
theorem dX7_enters_115 : decode cX7_enters 115 = .ok (.iconst 1, 1) := by decide +kernel
theorem dX7_enters_116 : decode cX7_enters 116 = .ok (.iadd, 1) := by decide +kernel
theorem dX7_enters_117 : decode cX7_enters 117 = .ok (.putfield 94, 3) := by decide +kernel
theorem dX7_enters_120 : decode cX7_enters 120 = .ok (.aload_n 0, 1) := by decide +kernel
theorem dX7_enters_121 : decode cX7_enters 121 = .ok (.getfield 94, 3) := by decide +kernel
theorem dX7_enters_124 : decode cX7_enters 124 = .ok (.iconst 1, 1) := by decide +kernel
theorem dX7_enters_125 : decode cX7_enters 125 = .ok (.isub, 1) := by decide +kernel
theorem dX7_enters_126 : decode cX7_enters 126 = .ok (.ireturn, 1) := by decide +kernel
theorem dX7_entersMade_0 : decode cX7_entersMade 0 = .ok (.aload_n 0, 1) := by decide +kernel
theorem dX7_entersMade_1 : decode cX7_entersMade 1 = .ok (.getfield 94, 3) := by decide +kernel
theorem dX7_entersMade_4 : decode cX7_entersMade 4 = .ok (.bipush 60, 2) := by decide +kernel
theorem dX7_entersMade_6 : decode cX7_entersMade 6 = .ok (.if_icmp .ne 10, 3) := by decide +kernel
theorem dX7_entersMade_9 : decode cX7_entersMade 9 = .ok (.aload_n 0, 1) := by decide +kernel
theorem dX7_entersMade_10 : decode cX7_entersMade 10 = .ok (.iload 4, 2) := by decide +kernel
theorem dX7_entersMade_12 : decode cX7_entersMade 12 = .ok (.invokevirtual 132, 3) := by decide +kernel
theorem dX7_entersMade_15 : decode cX7_entersMade 15 = .ok (.ireturn, 1) := by decide +kernel
theorem dX7_entersMade_16 : decode cX7_entersMade 16 = .ok (.aload_n 0, 1) := by decide +kernel
theorem dX7_entersMade_17 : decode cX7_entersMade 17 = .ok (.iload_n 1, 1) := by decide +kernel
theorem dX7_entersMade_18 : decode cX7_entersMade 18 = .ok (.iload_n 2, 1) := by decide +kernel
theorem dX7_entersMade_19 : decode cX7_entersMade 19 = .ok (.iload_n 3, 1) := by decide +kernel
theorem dX7_entersMade_20 : decode cX7_entersMade 20 = .ok (.invokevirtual 111, 3) := by decide +kernel
theorem dX7_entersMade_23 : decode cX7_entersMade 23 = .ok (.istore 9, 2) := by decide +kernel
theorem dX7_entersMade_25 : decode cX7_entersMade 25 = .ok (.iload 9, 2) := by decide +kernel
theorem dX7_entersMade_27 : decode cX7_entersMade 27 = .ok (.iconst (-1), 1) := by decide +kernel
theorem dX7_entersMade_28 : decode cX7_entersMade 28 = .ok (.if_icmp .ne 12, 3) := by decide +kernel
theorem dX7_entersMade_31 : decode cX7_entersMade 31 = .ok (.aload_n 0, 1) := by decide +kernel
theorem dX7_entersMade_32 : decode cX7_entersMade 32 = .ok (.iload 4, 2) := by decide +kernel
theorem dX7_entersMade_34 : decode cX7_entersMade 34 = .ok (.invokevirtual 132, 3) := by decide +kernel
theorem dX7_entersMade_37 : decode cX7_entersMade 37 = .ok (.goto 18, 3) := by decide +kernel
theorem dX7_entersMade_40 : decode cX7_entersMade 40 = .ok (.aload_n 0, 1) := by decide +kernel
theorem dX7_entersMade_41 : decode cX7_entersMade 41 = .ok (.iload 9, 2) := by decide +kernel
theorem dX7_entersMade_43 : decode cX7_entersMade 43 = .ok (.iload 5, 2) := by decide +kernel
theorem dX7_entersMade_45 : decode cX7_entersMade 45 = .ok (.iload 6, 2) := by decide +kernel
theorem dX7_entersMade_47 : decode cX7_entersMade 47 = .ok (.iload 7, 2) := by decide +kernel
theorem dX7_entersMade_49 : decode cX7_entersMade 49 = .ok (.iload 8, 2) := by decide +kernel
theorem dX7_entersMade_51 : decode cX7_entersMade 51 = .ok (.iconst (-1), 1) := by decide +kernel
theorem dX7_entersMade_52 : decode cX7_entersMade 52 = .ok (.invokevirtual 145, 3) := by decide +kernel
theorem dX7_entersMade_55 : decode cX7_entersMade 55 = .ok (.ireturn, 1) := by decide +kernel
theorem dX7_premise_0 : decode cX7_premise 0 = .ok (.aload_n 0, 1) := by decide +kernel
theorem dX7_premise_1 : decode cX7_premise 1 = .ok (.aload_n 0, 1) := by decide +kernel
theorem dX7_premise_2 : decode cX7_premise 2 = .ok (.iload_n 1, 1) := by decide +kernel
theorem dX7_premise_3 : decode cX7_premise 3 = .ok (.invokevirtual 135, 3) := by decide +kernel
theorem dX7_premise_6 : decode cX7_premise 6 = .ok (.ifCond .ne 7, 3) := by decide +kernel
theorem dX7_premise_9 : decode cX7_premise 9 = .ok (.iconst 1, 1) := by decide +kernel
theorem dX7_premise_10 : decode cX7_premise 10 = .ok (.goto 29, 3) := by decide +kernel
theorem dX7_premise_13 : decode cX7_premise 13 = .ok (.aload_n 0, 1) := by decide +kernel
theorem dX7_premise_14 : decode cX7_premise 14 = .ok (.getfield 56, 3) := by decide +kernel
theorem dX7_premise_17 : decode cX7_premise 17 = .ok (.iconst (-1), 1) := by decide +kernel
theorem dX7_premise_18 : decode cX7_premise 18 = .ok (.if_icmp .eq 7, 3) := by decide +kernel
theorem dX7_premise_21 : decode cX7_premise 21 = .ok (.iconst 2, 1) := by decide +kernel
theorem dX7_premise_22 : decode cX7_premise 22 = .ok (.goto 17, 3) := by decide +kernel
theorem dX7_premise_25 : decode cX7_premise 25 = .ok (.aload_n 0, 1) := by decide +kernel
theorem dX7_premise_26 : decode cX7_premise 26 = .ok (.getfield 94, 3) := by decide +kernel
theorem dX7_premise_29 : decode cX7_premise 29 = .ok (.bipush 60, 2) := by decide +kernel
theorem dX7_premise_31 : decode cX7_premise 31 = .ok (.if_icmp .ne 7, 3) := by decide +kernel
theorem dX7_premise_34 : decode cX7_premise 34 = .ok (.iconst 3, 1) := by decide +kernel
theorem dX7_premise_35 : decode cX7_premise 35 = .ok (.goto 4, 3) := by decide +kernel
theorem dX7_premise_38 : decode cX7_premise 38 = .ok (.iconst 0, 1) := by decide +kernel
theorem dX7_premise_39 : decode cX7_premise 39 = .ok (.putfield 84, 3) := by decide +kernel
theorem dX7_premise_42 : decode cX7_premise 42 = .ok (.aload_n 0, 1) := by decide +kernel
theorem dX7_premise_43 : decode cX7_premise 43 = .ok (.getfield 84, 3) := by decide +kernel
theorem dX7_premise_46 : decode cX7_premise 46 = .ok (.ifCond .le 7, 3) := by decide +kernel
theorem dX7_premise_49 : decode cX7_premise 49 = .ok (.iconst 0, 1) := by decide +kernel
theorem dX7_premise_50 : decode cX7_premise 50 = .ok (.goto 14, 3) := by decide +kernel
theorem dX7_premise_53 : decode cX7_premise 53 = .ok (.aload_n 0, 1) := by decide +kernel
theorem dX7_premise_54 : decode cX7_premise 54 = .ok (.iload_n 1, 1) := by decide +kernel
theorem dX7_premise_55 : decode cX7_premise 55 = .ok (.bipush 80, 2) := by decide +kernel
theorem dX7_premise_57 : decode cX7_premise 57 = .ok (.iconst (-1), 1) := by decide +kernel
theorem dX7_premise_58 : decode cX7_premise 58 = .ok (.iconst (-1), 1) := by decide +kernel
theorem dX7_premise_59 : decode cX7_premise 59 = .ok (.iconst (-1), 1) := by decide +kernel
theorem dX7_premise_60 : decode cX7_premise 60 = .ok (.iconst (-1), 1) := by decide +kernel
theorem dX7_premise_61 : decode cX7_premise 61 = .ok (.invokevirtual 145, 3) := by decide +kernel
theorem dX7_premise_64 : decode cX7_premise 64 = .ok (.ireturn, 1) := by decide +kernel
theorem dX7_assume_0 : decode cX7_assume 0 = .ok (.aload_n 0, 1) := by decide +kernel
theorem dX7_assume_1 : decode cX7_assume 1 = .ok (.aload_n 0, 1) := by decide +kernel
theorem dX7_assume_2 : decode cX7_assume 2 = .ok (.iload_n 1, 1) := by decide +kernel
theorem dX7_assume_3 : decode cX7_assume 3 = .ok (.invokevirtual 135, 3) := by decide +kernel
theorem dX7_assume_6 : decode cX7_assume 6 = .ok (.ifCond .ne 7, 3) := by decide +kernel
theorem dX7_assume_9 : decode cX7_assume 9 = .ok (.iconst 1, 1) := by decide +kernel
theorem dX7_assume_10 : decode cX7_assume 10 = .ok (.goto 17, 3) := by decide +kernel
theorem dX7_assume_13 : decode cX7_assume 13 = .ok (.aload_n 0, 1) := by decide +kernel
theorem dX7_assume_14 : decode cX7_assume 14 = .ok (.getfield 94, 3) := by decide +kernel
theorem dX7_assume_17 : decode cX7_assume 17 = .ok (.bipush 60, 2) := by decide +kernel
theorem dX7_assume_19 : decode cX7_assume 19 = .ok (.if_icmp .ne 7, 3) := by decide +kernel
theorem dX7_assume_22 : decode cX7_assume 22 = .ok (.iconst 2, 1) := by decide +kernel
theorem dX7_assume_23 : decode cX7_assume 23 = .ok (.goto 4, 3) := by decide +kernel
theorem dX7_assume_26 : decode cX7_assume 26 = .ok (.iconst 0, 1) := by decide +kernel
theorem dX7_assume_27 : decode cX7_assume 27 = .ok (.putfield 84, 3) := by decide +kernel
theorem dX7_assume_30 : decode cX7_assume 30 = .ok (.aload_n 0, 1) := by decide +kernel
theorem dX7_assume_31 : decode cX7_assume 31 = .ok (.getfield 84, 3) := by decide +kernel
theorem dX7_assume_34 : decode cX7_assume 34 = .ok (.ifCond .le 5, 3) := by decide +kernel
theorem dX7_assume_37 : decode cX7_assume 37 = .ok (.iconst 0, 1) := by decide +kernel
theorem dX7_assume_38 : decode cX7_assume 38 = .ok (.ireturn, 1) := by decide +kernel
theorem dX7_assume_39 : decode cX7_assume 39 = .ok (.aload_n 0, 1) := by decide +kernel
theorem dX7_assume_40 : decode cX7_assume 40 = .ok (.getfield 43, 3) := by decide +kernel
theorem dX7_assume_43 : decode cX7_assume 43 = .ok (.aload_n 0, 1) := by decide +kernel
theorem dX7_assume_44 : decode cX7_assume 44 = .ok (.getfield 97, 3) := by decide +kernel
theorem dX7_assume_47 : decode cX7_assume 47 = .ok (.aload_n 0, 1) := by decide +kernel
theorem dX7_assume_48 : decode cX7_assume 48 = .ok (.getfield 56, 3) := by decide +kernel
theorem dX7_assume_51 : decode cX7_assume 51 = .ok (.iastore, 1) := by decide +kernel
theorem dX7_assume_52 : decode cX7_assume 52 = .ok (.aload_n 0, 1) := by decide +kernel
theorem dX7_assume_53 : decode cX7_assume 53 = .ok (.getfield 46, 3) := by decide +kernel
theorem dX7_assume_56 : decode cX7_assume 56 = .ok (.aload_n 0, 1) := by decide +kernel
theorem dX7_assume_57 : decode cX7_assume 57 = .ok (.getfield 97, 3) := by decide +kernel
theorem dX7_assume_60 : decode cX7_assume 60 = .ok (.iconst 1, 1) := by decide +kernel
theorem dX7_assume_61 : decode cX7_assume 61 = .ok (.bastore, 1) := by decide +kernel
theorem dX7_assume_62 : decode cX7_assume 62 = .ok (.aload_n 0, 1) := by decide +kernel
theorem dX7_assume_63 : decode cX7_assume 63 = .ok (.getfield 50, 3) := by decide +kernel
theorem dX7_assume_66 : decode cX7_assume 66 = .ok (.aload_n 0, 1) := by decide +kernel
theorem dX7_assume_67 : decode cX7_assume 67 = .ok (.getfield 97, 3) := by decide +kernel
theorem dX7_assume_70 : decode cX7_assume 70 = .ok (.aload_n 0, 1) := by decide +kernel
theorem dX7_assume_71 : decode cX7_assume 71 = .ok (.getfield 94, 3) := by decide +kernel
theorem dX7_assume_74 : decode cX7_assume 74 = .ok (.iastore, 1) := by decide +kernel
theorem dX7_assume_75 : decode cX7_assume 75 = .ok (.aload_n 0, 1) := by decide +kernel
theorem dX7_assume_76 : decode cX7_assume 76 = .ok (.aload_n 0, 1) := by decide +kernel
theorem dX7_assume_77 : decode cX7_assume 77 = .ok (.getfield 97, 3) := by decide +kernel
theorem dX7_assume_80 : decode cX7_assume 80 = .ok (.putfield 56, 3) := by decide +kernel
theorem dX7_assume_83 : decode cX7_assume 83 = .ok (.aload_n 0, 1) := by decide +kernel
theorem dX7_assume_84 : decode cX7_assume 84 = .ok (.dup, 1) := by decide +kernel
theorem dX7_assume_85 : decode cX7_assume 85 = .ok (.getfield 97, 3) := by decide +kernel
theorem dX7_assume_88 : decode cX7_assume 88 = .ok (.iconst 1, 1) := by decide +kernel
theorem dX7_assume_89 : decode cX7_assume 89 = .ok (.iadd, 1) := by decide +kernel
theorem dX7_assume_90 : decode cX7_assume 90 = .ok (.putfield 97, 3) := by decide +kernel
theorem dX7_assume_93 : decode cX7_assume 93 = .ok (.aload_n 0, 1) := by decide +kernel
theorem dX7_assume_94 : decode cX7_assume 94 = .ok (.iload_n 1, 1) := by decide +kernel
theorem dX7_assume_95 : decode cX7_assume 95 = .ok (.bipush 72, 2) := by decide +kernel
theorem dX7_assume_97 : decode cX7_assume 97 = .ok (.iconst (-1), 1) := by decide +kernel
theorem dX7_assume_98 : decode cX7_assume 98 = .ok (.iconst (-1), 1) := by decide +kernel
theorem dX7_assume_99 : decode cX7_assume 99 = .ok (.iconst (-1), 1) := by decide +kernel
theorem dX7_assume_100 : decode cX7_assume 100 = .ok (.iconst (-1), 1) := by decide +kernel
theorem dX7_assume_101 : decode cX7_assume 101 = .ok (.invokevirtual 145, 3) := by decide +kernel
theorem dX7_assume_104 : decode cX7_assume 104 = .ok (.ireturn, 1) := by decide +kernel
theorem dX7_closeBox_0 : decode cX7_closeBox 0 = .ok (.aload_n 0, 1) := by decide +kernel
theorem dX7_closeBox_1 : decode cX7_closeBox 1 = .ok (.aload_n 0, 1) := by decide +kernel
theorem dX7_closeBox_2 : decode cX7_closeBox 2 = .ok (.getfield 56, 3) := by decide +kernel
theorem dX7_closeBox_5 : decode cX7_closeBox 5 = .ok (.iconst (-1), 1) := by decide +kernel
theorem dX7_closeBox_6 : decode cX7_closeBox 6 = .ok (.if_icmp .ne 7, 3) := by decide +kernel
theorem dX7_closeBox_9 : decode cX7_closeBox 9 = .ok (.iconst 1, 1) := by decide +kernel
theorem dX7_closeBox_10 : decode cX7_closeBox 10 = .ok (.goto 4, 3) := by decide +kernel
theorem dX7_closeBox_13 : decode cX7_closeBox 13 = .ok (.iconst 0, 1) := by decide +kernel
theorem dX7_closeBox_14 : decode cX7_closeBox 14 = .ok (.putfield 84, 3) := by decide +kernel
theorem dX7_closeBox_17 : decode cX7_closeBox 17 = .ok (.aload_n 0, 1) := by decide +kernel
theorem dX7_closeBox_18 : decode cX7_closeBox 18 = .ok (.getfield 84, 3) := by decide +kernel
theorem dX7_closeBox_21 : decode cX7_closeBox 21 = .ok (.ifCond .le 5, 3) := by decide +kernel
theorem dX7_closeBox_24 : decode cX7_closeBox 24 = .ok (.iconst 0, 1) := by decide +kernel
theorem dX7_closeBox_25 : decode cX7_closeBox 25 = .ok (.ireturn, 1) := by decide +kernel
theorem dX7_closeBox_26 : decode cX7_closeBox 26 = .ok (.aload_n 0, 1) := by decide +kernel
theorem dX7_closeBox_27 : decode cX7_closeBox 27 = .ok (.getfield 56, 3) := by decide +kernel
theorem dX7_closeBox_30 : decode cX7_closeBox 30 = .ok (.istore_n 1, 1) := by decide +kernel
theorem dX7_closeBox_31 : decode cX7_closeBox 31 = .ok (.aload_n 0, 1) := by decide +kernel
theorem dX7_closeBox_32 : decode cX7_closeBox 32 = .ok (.getfield 46, 3) := by decide +kernel
theorem dX7_closeBox_35 : decode cX7_closeBox 35 = .ok (.iload_n 1, 1) := by decide +kernel
theorem dX7_closeBox_36 : decode cX7_closeBox 36 = .ok (.iconst 0, 1) := by decide +kernel
theorem dX7_closeBox_37 : decode cX7_closeBox 37 = .ok (.bastore, 1) := by decide +kernel
theorem dX7_closeBox_38 : decode cX7_closeBox 38 = .ok (.aload_n 0, 1) := by decide +kernel
theorem dX7_closeBox_39 : decode cX7_closeBox 39 = .ok (.aload_n 0, 1) := by decide +kernel
theorem dX7_closeBox_40 : decode cX7_closeBox 40 = .ok (.getfield 43, 3) := by decide +kernel
theorem dX7_closeBox_43 : decode cX7_closeBox 43 = .ok (.iload_n 1, 1) := by decide +kernel
theorem dX7_closeBox_44 : decode cX7_closeBox 44 = .ok (.iaload, 1) := by decide +kernel
theorem dX7_closeBox_45 : decode cX7_closeBox 45 = .ok (.putfield 56, 3) := by decide +kernel
theorem dX7_closeBox_48 : decode cX7_closeBox 48 = .ok (.iload_n 1, 1) := by decide +kernel
theorem dX7_closeBox_49 : decode cX7_closeBox 49 = .ok (.ireturn, 1) := by decide +kernel
theorem dX7_cannotCite_0 : decode cX7_cannotCite 0 = .ok (.aload_n 0, 1) := by decide +kernel
theorem dX7_cannotCite_1 : decode cX7_cannotCite 1 = .ok (.aload_n 0, 1) := by decide +kernel
theorem dX7_cannotCite_2 : decode cX7_cannotCite 2 = .ok (.iload_n 1, 1) := by decide +kernel
theorem dX7_cannotCite_3 : decode cX7_cannotCite 3 = .ok (.invokevirtual 149, 3) := by decide +kernel
theorem dX7_cannotCite_6 : decode cX7_cannotCite 6 = .ok (.ifCond .ne 7, 3) := by decide +kernel
theorem dX7_cannotCite_9 : decode cX7_cannotCite 9 = .ok (.iconst 1, 1) := by decide +kernel
theorem dX7_cannotCite_10 : decode cX7_cannotCite 10 = .ok (.goto 16, 3) := by decide +kernel
theorem dX7_cannotCite_13 : decode cX7_cannotCite 13 = .ok (.aload_n 0, 1) := by decide +kernel
theorem dX7_cannotCite_14 : decode cX7_cannotCite 14 = .ok (.iload_n 1, 1) := by decide +kernel
theorem dX7_cannotCite_15 : decode cX7_cannotCite 15 = .ok (.invokevirtual 152, 3) := by decide +kernel
theorem dX7_cannotCite_18 : decode cX7_cannotCite 18 = .ok (.ifCond .ne 7, 3) := by decide +kernel
theorem dX7_cannotCite_21 : decode cX7_cannotCite 21 = .ok (.iconst 2, 1) := by decide +kernel
theorem dX7_cannotCite_22 : decode cX7_cannotCite 22 = .ok (.goto 4, 3) := by decide +kernel
theorem dX7_cannotCite_25 : decode cX7_cannotCite 25 = .ok (.iconst 0, 1) := by decide +kernel
theorem dX7_cannotCite_26 : decode cX7_cannotCite 26 = .ok (.putfield 84, 3) := by decide +kernel
theorem dX7_cannotCite_29 : decode cX7_cannotCite 29 = .ok (.aload_n 0, 1) := by decide +kernel
theorem dX7_cannotCite_30 : decode cX7_cannotCite 30 = .ok (.getfield 84, 3) := by decide +kernel
theorem dX7_cannotCite_33 : decode cX7_cannotCite 33 = .ok (.ifCond .le 7, 3) := by decide +kernel
theorem dX7_cannotCite_36 : decode cX7_cannotCite 36 = .ok (.iconst 1, 1) := by decide +kernel
theorem dX7_cannotCite_37 : decode cX7_cannotCite 37 = .ok (.goto 4, 3) := by decide +kernel
theorem dX7_cannotCite_40 : decode cX7_cannotCite 40 = .ok (.iconst 0, 1) := by decide +kernel
theorem dX7_cannotCite_41 : decode cX7_cannotCite 41 = .ok (.ireturn, 1) := by decide +kernel
theorem dX7_cannotCite__0 : decode cX7_cannotCite_ 0 = .ok (.aload_n 0, 1) := by decide +kernel
theorem dX7_cannotCite__1 : decode cX7_cannotCite_ 1 = .ok (.aload_n 0, 1) := by decide +kernel
theorem dX7_cannotCite__2 : decode cX7_cannotCite_ 2 = .ok (.iload_n 1, 1) := by decide +kernel
theorem dX7_cannotCite__3 : decode cX7_cannotCite_ 3 = .ok (.invokevirtual 149, 3) := by decide +kernel
theorem dX7_cannotCite__6 : decode cX7_cannotCite_ 6 = .ok (.ifCond .eq 11, 3) := by decide +kernel
theorem dX7_cannotCite__9 : decode cX7_cannotCite_ 9 = .ok (.aload_n 0, 1) := by decide +kernel
theorem dX7_cannotCite__10 : decode cX7_cannotCite_ 10 = .ok (.iload_n 2, 1) := by decide +kernel
theorem dX7_cannotCite__11 : decode cX7_cannotCite_ 11 = .ok (.invokevirtual 149, 3) := by decide +kernel
theorem dX7_cannotCite__14 : decode cX7_cannotCite_ 14 = .ok (.ifCond .ne 7, 3) := by decide +kernel
theorem dX7_cannotCite__17 : decode cX7_cannotCite_ 17 = .ok (.iconst 1, 1) := by decide +kernel
theorem dX7_cannotCite__18 : decode cX7_cannotCite_ 18 = .ok (.goto 24, 3) := by decide +kernel
theorem dX7_cannotCite__21 : decode cX7_cannotCite_ 21 = .ok (.aload_n 0, 1) := by decide +kernel
theorem dX7_cannotCite__22 : decode cX7_cannotCite_ 22 = .ok (.iload_n 1, 1) := by decide +kernel
theorem dX7_cannotCite__23 : decode cX7_cannotCite_ 23 = .ok (.invokevirtual 152, 3) := by decide +kernel
theorem dX7_cannotCite__26 : decode cX7_cannotCite_ 26 = .ok (.ifCond .eq 11, 3) := by decide +kernel
theorem dX7_cannotCite__29 : decode cX7_cannotCite_ 29 = .ok (.aload_n 0, 1) := by decide +kernel
theorem dX7_cannotCite__30 : decode cX7_cannotCite_ 30 = .ok (.iload_n 2, 1) := by decide +kernel
theorem dX7_cannotCite__31 : decode cX7_cannotCite_ 31 = .ok (.invokevirtual 152, 3) := by decide +kernel
theorem dX7_cannotCite__34 : decode cX7_cannotCite_ 34 = .ok (.ifCond .ne 7, 3) := by decide +kernel
theorem dX7_cannotCite__37 : decode cX7_cannotCite_ 37 = .ok (.iconst 2, 1) := by decide +kernel
theorem dX7_cannotCite__38 : decode cX7_cannotCite_ 38 = .ok (.goto 4, 3) := by decide +kernel
theorem dX7_cannotCite__41 : decode cX7_cannotCite_ 41 = .ok (.iconst 0, 1) := by decide +kernel
theorem dX7_cannotCite__42 : decode cX7_cannotCite_ 42 = .ok (.putfield 84, 3) := by decide +kernel
theorem dX7_cannotCite__45 : decode cX7_cannotCite_ 45 = .ok (.aload_n 0, 1) := by decide +kernel
theorem dX7_cannotCite__46 : decode cX7_cannotCite_ 46 = .ok (.getfield 84, 3) := by decide +kernel
theorem dX7_cannotCite__49 : decode cX7_cannotCite_ 49 = .ok (.ifCond .le 7, 3) := by decide +kernel
theorem dX7_cannotCite__52 : decode cX7_cannotCite_ 52 = .ok (.iconst 1, 1) := by decide +kernel
theorem dX7_cannotCite__53 : decode cX7_cannotCite_ 53 = .ok (.goto 4, 3) := by decide +kernel
theorem dX7_cannotCite__56 : decode cX7_cannotCite_ 56 = .ok (.iconst 0, 1) := by decide +kernel
theorem dX7_cannotCite__57 : decode cX7_cannotCite_ 57 = .ok (.ireturn, 1) := by decide +kernel
theorem dX7_cannotCiteBox_0 : decode cX7_cannotCiteBox 0 = .ok (.aload_n 0, 1) := by decide +kernel
theorem dX7_cannotCiteBox_1 : decode cX7_cannotCiteBox 1 = .ok (.aload_n 0, 1) := by decide +kernel
theorem dX7_cannotCiteBox_2 : decode cX7_cannotCiteBox 2 = .ok (.iload_n 1, 1) := by decide +kernel
theorem dX7_cannotCiteBox_3 : decode cX7_cannotCiteBox 3 = .ok (.invokevirtual 155, 3) := by decide +kernel
theorem dX7_cannotCiteBox_6 : decode cX7_cannotCiteBox 6 = .ok (.ifCond .ne 7, 3) := by decide +kernel
theorem dX7_cannotCiteBox_9 : decode cX7_cannotCiteBox 9 = .ok (.iconst 1, 1) := by decide +kernel
theorem dX7_cannotCiteBox_10 : decode cX7_cannotCiteBox 10 = .ok (.goto 16, 3) := by decide +kernel
theorem dX7_cannotCiteBox_13 : decode cX7_cannotCiteBox 13 = .ok (.aload_n 0, 1) := by decide +kernel
theorem dX7_cannotCiteBox_14 : decode cX7_cannotCiteBox 14 = .ok (.iload_n 1, 1) := by decide +kernel
theorem dX7_cannotCiteBox_15 : decode cX7_cannotCiteBox 15 = .ok (.invokevirtual 158, 3) := by decide +kernel
theorem dX7_cannotCiteBox_18 : decode cX7_cannotCiteBox 18 = .ok (.ifCond .ne 7, 3) := by decide +kernel
theorem dX7_cannotCiteBox_21 : decode cX7_cannotCiteBox 21 = .ok (.iconst 2, 1) := by decide +kernel
theorem dX7_cannotCiteBox_22 : decode cX7_cannotCiteBox 22 = .ok (.goto 4, 3) := by decide +kernel
theorem dX7_cannotCiteBox_25 : decode cX7_cannotCiteBox 25 = .ok (.iconst 0, 1) := by decide +kernel
theorem dX7_cannotCiteBox_26 : decode cX7_cannotCiteBox 26 = .ok (.putfield 84, 3) := by decide +kernel
theorem dX7_cannotCiteBox_29 : decode cX7_cannotCiteBox 29 = .ok (.aload_n 0, 1) := by decide +kernel
theorem dX7_cannotCiteBox_30 : decode cX7_cannotCiteBox 30 = .ok (.getfield 84, 3) := by decide +kernel
theorem dX7_cannotCiteBox_33 : decode cX7_cannotCiteBox 33 = .ok (.ifCond .le 7, 3) := by decide +kernel
theorem dX7_cannotCiteBox_36 : decode cX7_cannotCiteBox 36 = .ok (.iconst 1, 1) := by decide +kernel
theorem dX7_cannotCiteBox_37 : decode cX7_cannotCiteBox 37 = .ok (.goto 4, 3) := by decide +kernel
theorem dX7_cannotCiteBox_40 : decode cX7_cannotCiteBox 40 = .ok (.iconst 0, 1) := by decide +kernel
theorem dX7_cannotCiteBox_41 : decode cX7_cannotCiteBox 41 = .ok (.ireturn, 1) := by decide +kernel
theorem dX7_repeat_0 : decode cX7_repeat 0 = .ok (.aload_n 0, 1) := by decide +kernel
theorem dX7_repeat_1 : decode cX7_repeat 1 = .ok (.iload_n 1, 1) := by decide +kernel
theorem dX7_repeat_2 : decode cX7_repeat 2 = .ok (.invokevirtual 161, 3) := by decide +kernel
theorem dX7_repeat_5 : decode cX7_repeat 5 = .ok (.ifCond .eq 5, 3) := by decide +kernel
theorem dX7_repeat_8 : decode cX7_repeat 8 = .ok (.iconst 0, 1) := by decide +kernel
theorem dX7_repeat_9 : decode cX7_repeat 9 = .ok (.ireturn, 1) := by decide +kernel
theorem dX7_repeat_10 : decode cX7_repeat 10 = .ok (.aload_n 0, 1) := by decide +kernel
theorem dX7_repeat_11 : decode cX7_repeat 11 = .ok (.getfield 94, 3) := by decide +kernel
theorem dX7_repeat_14 : decode cX7_repeat 14 = .ok (.bipush 60, 2) := by decide +kernel
theorem dX7_repeat_16 : decode cX7_repeat 16 = .ok (.if_icmp .ne 11, 3) := by decide +kernel
theorem dX7_repeat_19 : decode cX7_repeat 19 = .ok (.aload_n 0, 1) := by decide +kernel
theorem dX7_repeat_20 : decode cX7_repeat 20 = .ok (.iconst 3, 1) := by decide +kernel
theorem dX7_repeat_21 : decode cX7_repeat 21 = .ok (.invokevirtual 132, 3) := by decide +kernel
theorem dX7_repeat_24 : decode cX7_repeat 24 = .ok (.goto 19, 3) := by decide +kernel
theorem dX7_repeat_27 : decode cX7_repeat 27 = .ok (.aload_n 0, 1) := by decide +kernel
theorem dX7_repeat_28 : decode cX7_repeat 28 = .ok (.aload_n 0, 1) := by decide +kernel
theorem dX7_repeat_29 : decode cX7_repeat 29 = .ok (.getfield 29, 3) := by decide +kernel
theorem dX7_repeat_32 : decode cX7_repeat 32 = .ok (.iload_n 1, 1) := by decide +kernel
theorem dX7_repeat_33 : decode cX7_repeat 33 = .ok (.iaload, 1) := by decide +kernel
theorem dX7_repeat_34 : decode cX7_repeat 34 = .ok (.bipush 82, 2) := by decide +kernel
theorem dX7_repeat_36 : decode cX7_repeat 36 = .ok (.iload_n 1, 1) := by decide +kernel
theorem dX7_repeat_37 : decode cX7_repeat 37 = .ok (.iconst (-1), 1) := by decide +kernel
theorem dX7_repeat_38 : decode cX7_repeat 38 = .ok (.iconst (-1), 1) := by decide +kernel
theorem dX7_repeat_39 : decode cX7_repeat 39 = .ok (.iconst (-1), 1) := by decide +kernel
theorem dX7_repeat_40 : decode cX7_repeat 40 = .ok (.invokevirtual 145, 3) := by decide +kernel
theorem dX7_repeat_43 : decode cX7_repeat 43 = .ok (.ireturn, 1) := by decide +kernel
theorem dX7_makeConjunction_0 : decode cX7_makeConjunction 0 = .ok (.aload_n 0, 1) := by decide +kernel
theorem dX7_makeConjunction_1 : decode cX7_makeConjunction 1 = .ok (.iload_n 1, 1) := by decide +kernel
theorem dX7_makeConjunction_2 : decode cX7_makeConjunction 2 = .ok (.iload_n 2, 1) := by decide +kernel
theorem dX7_makeConjunction_3 : decode cX7_makeConjunction 3 = .ok (.invokevirtual 164, 3) := by decide +kernel
theorem dX7_makeConjunction_6 : decode cX7_makeConjunction 6 = .ok (.ifCond .eq 7, 3) := by decide +kernel
theorem dX7_makeConjunction_9 : decode cX7_makeConjunction 9 = .ok (.iconst 0, 1) := by decide +kernel
theorem dX7_makeConjunction_10 : decode cX7_makeConjunction 10 = .ok (.goto 27, 3) := by decide +kernel
theorem dX7_makeConjunction_13 : decode cX7_makeConjunction 13 = .ok (.aload_n 0, 1) := by decide +kernel
theorem dX7_makeConjunction_14 : decode cX7_makeConjunction 14 = .ok (.bipush 75, 2) := by decide +kernel
theorem dX7_makeConjunction_16 : decode cX7_makeConjunction 16 = .ok (.aload_n 0, 1) := by decide +kernel
theorem dX7_makeConjunction_17 : decode cX7_makeConjunction 17 = .ok (.getfield 29, 3) := by decide +kernel
theorem dX7_makeConjunction_20 : decode cX7_makeConjunction 20 = .ok (.iload_n 1, 1) := by decide +kernel
theorem dX7_makeConjunction_21 : decode cX7_makeConjunction 21 = .ok (.iaload, 1) := by decide +kernel
theorem dX7_makeConjunction_22 : decode cX7_makeConjunction 22 = .ok (.aload_n 0, 1) := by decide +kernel
theorem dX7_makeConjunction_23 : decode cX7_makeConjunction 23 = .ok (.getfield 29, 3) := by decide +kernel
theorem dX7_makeConjunction_26 : decode cX7_makeConjunction 26 = .ok (.iload_n 2, 1) := by decide +kernel
theorem dX7_makeConjunction_27 : decode cX7_makeConjunction 27 = .ok (.iaload, 1) := by decide +kernel
theorem dX7_makeConjunction_28 : decode cX7_makeConjunction 28 = .ok (.iconst 3, 1) := by decide +kernel
theorem dX7_makeConjunction_29 : decode cX7_makeConjunction 29 = .ok (.bipush 107, 2) := by decide +kernel
theorem dX7_makeConjunction_31 : decode cX7_makeConjunction 31 = .ok (.iload_n 1, 1) := by decide +kernel
theorem dX7_makeConjunction_32 : decode cX7_makeConjunction 32 = .ok (.iload_n 2, 1) := by decide +kernel
theorem dX7_makeConjunction_33 : decode cX7_makeConjunction 33 = .ok (.iconst (-1), 1) := by decide +kernel
theorem dX7_makeConjunction_34 : decode cX7_makeConjunction 34 = .ok (.invokevirtual 167, 3) := by decide +kernel
theorem dX7_makeConjunction_37 : decode cX7_makeConjunction 37 = .ok (.ireturn, 1) := by decide +kernel
theorem dX7_useConjunction_0 : decode cX7_useConjunction 0 = .ok (.aload_n 0, 1) := by decide +kernel
theorem dX7_useConjunction_1 : decode cX7_useConjunction 1 = .ok (.iload_n 1, 1) := by decide +kernel
theorem dX7_useConjunction_2 : decode cX7_useConjunction 2 = .ok (.invokevirtual 161, 3) := by decide +kernel
theorem dX7_useConjunction_5 : decode cX7_useConjunction 5 = .ok (.ifCond .eq 5, 3) := by decide +kernel
theorem dX7_useConjunction_8 : decode cX7_useConjunction 8 = .ok (.iconst 0, 1) := by decide +kernel
theorem dX7_useConjunction_9 : decode cX7_useConjunction 9 = .ok (.ireturn, 1) := by decide +kernel
theorem dX7_useConjunction_10 : decode cX7_useConjunction 10 = .ok (.aload_n 0, 1) := by decide +kernel
theorem dX7_useConjunction_11 : decode cX7_useConjunction 11 = .ok (.getfield 29, 3) := by decide +kernel
theorem dX7_useConjunction_14 : decode cX7_useConjunction 14 = .ok (.iload_n 1, 1) := by decide +kernel
theorem dX7_useConjunction_15 : decode cX7_useConjunction 15 = .ok (.iaload, 1) := by decide +kernel
theorem dX7_useConjunction_16 : decode cX7_useConjunction 16 = .ok (.istore_n 3, 1) := by decide +kernel
theorem dX7_useConjunction_17 : decode cX7_useConjunction 17 = .ok (.aload_n 0, 1) := by decide +kernel
theorem dX7_useConjunction_18 : decode cX7_useConjunction 18 = .ok (.getfield 9, 3) := by decide +kernel
theorem dX7_useConjunction_21 : decode cX7_useConjunction 21 = .ok (.iload_n 3, 1) := by decide +kernel
theorem dX7_useConjunction_22 : decode cX7_useConjunction 22 = .ok (.caload, 1) := by decide +kernel
theorem dX7_useConjunction_23 : decode cX7_useConjunction 23 = .ok (.bipush 75, 2) := by decide +kernel
theorem dX7_useConjunction_25 : decode cX7_useConjunction 25 = .ok (.if_icmp .ne 12, 3) := by decide +kernel
theorem dX7_useConjunction_28 : decode cX7_useConjunction 28 = .ok (.aload_n 0, 1) := by decide +kernel
theorem dX7_useConjunction_29 : decode cX7_useConjunction 29 = .ok (.getfield 94, 3) := by decide +kernel
theorem dX7_useConjunction_32 : decode cX7_useConjunction 32 = .ok (.bipush 60, 2) := by decide +kernel
theorem dX7_useConjunction_34 : decode cX7_useConjunction 34 = .ok (.if_icmp .ne 24, 3) := by decide +kernel
theorem dX7_useConjunction_37 : decode cX7_useConjunction 37 = .ok (.aload_n 0, 1) := by decide +kernel
theorem dX7_useConjunction_38 : decode cX7_useConjunction 38 = .ok (.aload_n 0, 1) := by decide +kernel
theorem dX7_useConjunction_39 : decode cX7_useConjunction 39 = .ok (.getfield 9, 3) := by decide +kernel
theorem dX7_useConjunction_42 : decode cX7_useConjunction 42 = .ok (.iload_n 3, 1) := by decide +kernel
theorem dX7_useConjunction_43 : decode cX7_useConjunction 43 = .ok (.caload, 1) := by decide +kernel
theorem dX7_useConjunction_44 : decode cX7_useConjunction 44 = .ok (.bipush 75, 2) := by decide +kernel
theorem dX7_useConjunction_46 : decode cX7_useConjunction 46 = .ok (.if_icmp .eq 7, 3) := by decide +kernel
theorem dX7_useConjunction_49 : decode cX7_useConjunction 49 = .ok (.iconst 3, 1) := by decide +kernel
theorem dX7_useConjunction_50 : decode cX7_useConjunction 50 = .ok (.goto 4, 3) := by decide +kernel
theorem dX7_useConjunction_53 : decode cX7_useConjunction 53 = .ok (.iconst 4, 1) := by decide +kernel
theorem dX7_useConjunction_54 : decode cX7_useConjunction 54 = .ok (.invokevirtual 132, 3) := by decide +kernel
theorem dX7_useConjunction_57 : decode cX7_useConjunction 57 = .ok (.ireturn, 1) := by decide +kernel
theorem dX7_useConjunction_58 : decode cX7_useConjunction 58 = .ok (.aload_n 0, 1) := by decide +kernel
theorem dX7_useConjunction_59 : decode cX7_useConjunction 59 = .ok (.iload_n 2, 1) := by decide +kernel
theorem dX7_useConjunction_60 : decode cX7_useConjunction 60 = .ok (.ifCond .eq 12, 3) := by decide +kernel
theorem dX7_useConjunction_63 : decode cX7_useConjunction 63 = .ok (.aload_n 0, 1) := by decide +kernel
theorem dX7_useConjunction_64 : decode cX7_useConjunction 64 = .ok (.getfield 17, 3) := by decide +kernel
theorem dX7_useConjunction_67 : decode cX7_useConjunction 67 = .ok (.iload_n 3, 1) := by decide +kernel
theorem dX7_useConjunction_68 : decode cX7_useConjunction 68 = .ok (.iaload, 1) := by decide +kernel
theorem dX7_useConjunction_69 : decode cX7_useConjunction 69 = .ok (.goto 9, 3) := by decide +kernel
theorem dX7_useConjunction_72 : decode cX7_useConjunction 72 = .ok (.aload_n 0, 1) := by decide +kernel
theorem dX7_useConjunction_73 : decode cX7_useConjunction 73 = .ok (.getfield 13, 3) := by decide +kernel
theorem dX7_useConjunction_76 : decode cX7_useConjunction 76 = .ok (.iload_n 3, 1) := by decide +kernel
theorem dX7_useConjunction_77 : decode cX7_useConjunction 77 = .ok (.iaload, 1) := by decide +kernel
theorem dX7_useConjunction_78 : decode cX7_useConjunction 78 = .ok (.iload_n 2, 1) := by decide +kernel
theorem dX7_useConjunction_79 : decode cX7_useConjunction 79 = .ok (.ifCond .eq 8, 3) := by decide +kernel
theorem dX7_useConjunction_82 : decode cX7_useConjunction 82 = .ok (.bipush 114, 2) := by decide +kernel
theorem dX7_useConjunction_84 : decode cX7_useConjunction 84 = .ok (.goto 5, 3) := by decide +kernel
theorem dX7_useConjunction_87 : decode cX7_useConjunction 87 = .ok (.bipush 108, 2) := by decide +kernel
theorem dX7_useConjunction_89 : decode cX7_useConjunction 89 = .ok (.iload_n 1, 1) := by decide +kernel
theorem dX7_useConjunction_90 : decode cX7_useConjunction 90 = .ok (.iconst (-1), 1) := by decide +kernel
theorem dX7_useConjunction_91 : decode cX7_useConjunction 91 = .ok (.iconst (-1), 1) := by decide +kernel
theorem dX7_useConjunction_92 : decode cX7_useConjunction 92 = .ok (.iconst (-1), 1) := by decide +kernel
theorem dX7_useConjunction_93 : decode cX7_useConjunction 93 = .ok (.invokevirtual 145, 3) := by decide +kernel
theorem dX7_useConjunction_96 : decode cX7_useConjunction 96 = .ok (.ireturn, 1) := by decide +kernel
theorem dX7_makeDisjunction_0 : decode cX7_makeDisjunction 0 = .ok (.aload_n 0, 1) := by decide +kernel
theorem dX7_makeDisjunction_1 : decode cX7_makeDisjunction 1 = .ok (.aload_n 0, 1) := by decide +kernel
theorem dX7_makeDisjunction_2 : decode cX7_makeDisjunction 2 = .ok (.iload_n 1, 1) := by decide +kernel
theorem dX7_makeDisjunction_3 : decode cX7_makeDisjunction 3 = .ok (.invokevirtual 149, 3) := by decide +kernel
theorem dX7_makeDisjunction_6 : decode cX7_makeDisjunction 6 = .ok (.ifCond .eq 11, 3) := by decide +kernel
theorem dX7_makeDisjunction_9 : decode cX7_makeDisjunction 9 = .ok (.aload_n 0, 1) := by decide +kernel
theorem dX7_makeDisjunction_10 : decode cX7_makeDisjunction 10 = .ok (.iload_n 2, 1) := by decide +kernel
theorem dX7_makeDisjunction_11 : decode cX7_makeDisjunction 11 = .ok (.invokevirtual 135, 3) := by decide +kernel
theorem dX7_makeDisjunction_14 : decode cX7_makeDisjunction 14 = .ok (.ifCond .ne 7, 3) := by decide +kernel
theorem dX7_makeDisjunction_17 : decode cX7_makeDisjunction 17 = .ok (.iconst 1, 1) := by decide +kernel
theorem dX7_makeDisjunction_18 : decode cX7_makeDisjunction 18 = .ok (.goto 16, 3) := by decide +kernel
theorem dX7_makeDisjunction_21 : decode cX7_makeDisjunction 21 = .ok (.aload_n 0, 1) := by decide +kernel
theorem dX7_makeDisjunction_22 : decode cX7_makeDisjunction 22 = .ok (.iload_n 1, 1) := by decide +kernel
theorem dX7_makeDisjunction_23 : decode cX7_makeDisjunction 23 = .ok (.invokevirtual 152, 3) := by decide +kernel
theorem dX7_makeDisjunction_26 : decode cX7_makeDisjunction 26 = .ok (.ifCond .ne 7, 3) := by decide +kernel
theorem dX7_makeDisjunction_29 : decode cX7_makeDisjunction 29 = .ok (.iconst 2, 1) := by decide +kernel
theorem dX7_makeDisjunction_30 : decode cX7_makeDisjunction 30 = .ok (.goto 4, 3) := by decide +kernel
theorem dX7_makeDisjunction_33 : decode cX7_makeDisjunction 33 = .ok (.iconst 0, 1) := by decide +kernel
theorem dX7_makeDisjunction_34 : decode cX7_makeDisjunction 34 = .ok (.putfield 84, 3) := by decide +kernel
theorem dX7_makeDisjunction_37 : decode cX7_makeDisjunction 37 = .ok (.aload_n 0, 1) := by decide +kernel
theorem dX7_makeDisjunction_38 : decode cX7_makeDisjunction 38 = .ok (.getfield 84, 3) := by decide +kernel
theorem dX7_makeDisjunction_41 : decode cX7_makeDisjunction 41 = .ok (.ifCond .le 5, 3) := by decide +kernel
theorem dX7_makeDisjunction_44 : decode cX7_makeDisjunction 44 = .ok (.iconst 0, 1) := by decide +kernel
theorem dX7_makeDisjunction_45 : decode cX7_makeDisjunction 45 = .ok (.ireturn, 1) := by decide +kernel
theorem dX7_makeDisjunction_46 : decode cX7_makeDisjunction 46 = .ok (.aload_n 0, 1) := by decide +kernel
theorem dX7_makeDisjunction_47 : decode cX7_makeDisjunction 47 = .ok (.getfield 29, 3) := by decide +kernel
theorem dX7_makeDisjunction_50 : decode cX7_makeDisjunction 50 = .ok (.iload_n 1, 1) := by decide +kernel
theorem dX7_makeDisjunction_51 : decode cX7_makeDisjunction 51 = .ok (.iaload, 1) := by decide +kernel
theorem dX7_makeDisjunction_52 : decode cX7_makeDisjunction 52 = .ok (.istore 4, 2) := by decide +kernel
theorem dX7_makeDisjunction_54 : decode cX7_makeDisjunction 54 = .ok (.aload_n 0, 1) := by decide +kernel
theorem dX7_makeDisjunction_55 : decode cX7_makeDisjunction 55 = .ok (.bipush 65, 2) := by decide +kernel
theorem dX7_makeDisjunction_57 : decode cX7_makeDisjunction 57 = .ok (.iload_n 3, 1) := by decide +kernel
theorem dX7_makeDisjunction_58 : decode cX7_makeDisjunction 58 = .ok (.ifCond .eq 7, 3) := by decide +kernel
theorem dX7_makeDisjunction_61 : decode cX7_makeDisjunction 61 = .ok (.iload_n 2, 1) := by decide +kernel
theorem dX7_makeDisjunction_62 : decode cX7_makeDisjunction 62 = .ok (.goto 5, 3) := by decide +kernel
theorem dX7_makeDisjunction_65 : decode cX7_makeDisjunction 65 = .ok (.iload 4, 2) := by decide +kernel
theorem dX7_makeDisjunction_67 : decode cX7_makeDisjunction 67 = .ok (.iload_n 3, 1) := by decide +kernel
theorem dX7_makeDisjunction_68 : decode cX7_makeDisjunction 68 = .ok (.ifCond .eq 8, 3) := by decide +kernel
theorem dX7_makeDisjunction_71 : decode cX7_makeDisjunction 71 = .ok (.iload 4, 2) := by decide +kernel
theorem dX7_makeDisjunction_73 : decode cX7_makeDisjunction 73 = .ok (.goto 4, 3) := by decide +kernel
theorem dX7_makeDisjunction_76 : decode cX7_makeDisjunction 76 = .ok (.iload_n 2, 1) := by decide +kernel
theorem dX7_makeDisjunction_77 : decode cX7_makeDisjunction 77 = .ok (.iconst 3, 1) := by decide +kernel
theorem dX7_makeDisjunction_78 : decode cX7_makeDisjunction 78 = .ok (.iload_n 3, 1) := by decide +kernel
theorem dX7_makeDisjunction_79 : decode cX7_makeDisjunction 79 = .ok (.ifCond .eq 8, 3) := by decide +kernel
theorem dX7_makeDisjunction_82 : decode cX7_makeDisjunction 82 = .ok (.bipush 98, 2) := by decide +kernel
theorem dX7_makeDisjunction_84 : decode cX7_makeDisjunction 84 = .ok (.goto 5, 3) := by decide +kernel
theorem dX7_makeDisjunction_87 : decode cX7_makeDisjunction 87 = .ok (.bipush 97, 2) := by decide +kernel
theorem dX7_makeDisjunction_89 : decode cX7_makeDisjunction 89 = .ok (.iload_n 1, 1) := by decide +kernel
theorem dX7_makeDisjunction_90 : decode cX7_makeDisjunction 90 = .ok (.iconst (-1), 1) := by decide +kernel
theorem dX7_makeDisjunction_91 : decode cX7_makeDisjunction 91 = .ok (.iconst (-1), 1) := by decide +kernel
theorem dX7_makeDisjunction_92 : decode cX7_makeDisjunction 92 = .ok (.invokevirtual 167, 3) := by decide +kernel
theorem dX7_makeDisjunction_95 : decode cX7_makeDisjunction 95 = .ok (.ireturn, 1) := by decide +kernel
theorem dX7_result_0 : decode cX7_result 0 = .ok (.aload_n 0, 1) := by decide +kernel
theorem dX7_result_1 : decode cX7_result 1 = .ok (.getfield 29, 3) := by decide +kernel
theorem dX7_result_4 : decode cX7_result 4 = .ok (.aload_n 0, 1) := by decide +kernel
theorem dX7_result_5 : decode cX7_result 5 = .ok (.getfield 53, 3) := by decide +kernel
theorem dX7_result_8 : decode cX7_result 8 = .ok (.iload_n 1, 1) := by decide +kernel
theorem dX7_result_9 : decode cX7_result 9 = .ok (.iaload, 1) := by decide +kernel
theorem dX7_result_10 : decode cX7_result 10 = .ok (.iaload, 1) := by decide +kernel
theorem dX7_result_11 : decode cX7_result 11 = .ok (.ireturn, 1) := by decide +kernel
theorem dX7_useDisjunction_0 : decode cX7_useDisjunction 0 = .ok (.aload_n 0, 1) := by decide +kernel
theorem dX7_useDisjunction_1 : decode cX7_useDisjunction 1 = .ok (.aload_n 0, 1) := by decide +kernel
theorem dX7_useDisjunction_2 : decode cX7_useDisjunction 2 = .ok (.iload_n 1, 1) := by decide +kernel
theorem dX7_useDisjunction_3 : decode cX7_useDisjunction 3 = .ok (.invokevirtual 149, 3) := by decide +kernel
theorem dX7_useDisjunction_6 : decode cX7_useDisjunction 6 = .ok (.ifCond .eq 19, 3) := by decide +kernel
theorem dX7_useDisjunction_9 : decode cX7_useDisjunction 9 = .ok (.aload_n 0, 1) := by decide +kernel
theorem dX7_useDisjunction_10 : decode cX7_useDisjunction 10 = .ok (.iload_n 2, 1) := by decide +kernel
theorem dX7_useDisjunction_11 : decode cX7_useDisjunction 11 = .ok (.invokevirtual 155, 3) := by decide +kernel
theorem dX7_useDisjunction_14 : decode cX7_useDisjunction 14 = .ok (.ifCond .eq 11, 3) := by decide +kernel
theorem dX7_useDisjunction_17 : decode cX7_useDisjunction 17 = .ok (.aload_n 0, 1) := by decide +kernel
theorem dX7_useDisjunction_18 : decode cX7_useDisjunction 18 = .ok (.iload_n 3, 1) := by decide +kernel
theorem dX7_useDisjunction_19 : decode cX7_useDisjunction 19 = .ok (.invokevirtual 155, 3) := by decide +kernel
theorem dX7_useDisjunction_22 : decode cX7_useDisjunction 22 = .ok (.ifCond .ne 7, 3) := by decide +kernel
theorem dX7_useDisjunction_25 : decode cX7_useDisjunction 25 = .ok (.iconst 1, 1) := by decide +kernel
theorem dX7_useDisjunction_26 : decode cX7_useDisjunction 26 = .ok (.goto 32, 3) := by decide +kernel
theorem dX7_useDisjunction_29 : decode cX7_useDisjunction 29 = .ok (.aload_n 0, 1) := by decide +kernel
theorem dX7_useDisjunction_30 : decode cX7_useDisjunction 30 = .ok (.iload_n 1, 1) := by decide +kernel
theorem dX7_useDisjunction_31 : decode cX7_useDisjunction 31 = .ok (.invokevirtual 152, 3) := by decide +kernel
theorem dX7_useDisjunction_34 : decode cX7_useDisjunction 34 = .ok (.ifCond .eq 19, 3) := by decide +kernel
theorem dX7_useDisjunction_37 : decode cX7_useDisjunction 37 = .ok (.aload_n 0, 1) := by decide +kernel
theorem dX7_useDisjunction_38 : decode cX7_useDisjunction 38 = .ok (.iload_n 2, 1) := by decide +kernel
theorem dX7_useDisjunction_39 : decode cX7_useDisjunction 39 = .ok (.invokevirtual 158, 3) := by decide +kernel
theorem dX7_useDisjunction_42 : decode cX7_useDisjunction 42 = .ok (.ifCond .eq 11, 3) := by decide +kernel
theorem dX7_useDisjunction_45 : decode cX7_useDisjunction 45 = .ok (.aload_n 0, 1) := by decide +kernel
theorem dX7_useDisjunction_46 : decode cX7_useDisjunction 46 = .ok (.iload_n 3, 1) := by decide +kernel
theorem dX7_useDisjunction_47 : decode cX7_useDisjunction 47 = .ok (.invokevirtual 158, 3) := by decide +kernel
theorem dX7_useDisjunction_50 : decode cX7_useDisjunction 50 = .ok (.ifCond .ne 7, 3) := by decide +kernel
theorem dX7_useDisjunction_53 : decode cX7_useDisjunction 53 = .ok (.iconst 2, 1) := by decide +kernel
theorem dX7_useDisjunction_54 : decode cX7_useDisjunction 54 = .ok (.goto 4, 3) := by decide +kernel
theorem dX7_useDisjunction_57 : decode cX7_useDisjunction 57 = .ok (.iconst 0, 1) := by decide +kernel
theorem dX7_useDisjunction_58 : decode cX7_useDisjunction 58 = .ok (.putfield 84, 3) := by decide +kernel
theorem dX7_useDisjunction_61 : decode cX7_useDisjunction 61 = .ok (.aload_n 0, 1) := by decide +kernel
theorem dX7_useDisjunction_62 : decode cX7_useDisjunction 62 = .ok (.getfield 84, 3) := by decide +kernel
theorem dX7_useDisjunction_65 : decode cX7_useDisjunction 65 = .ok (.ifCond .le 5, 3) := by decide +kernel
theorem dX7_useDisjunction_68 : decode cX7_useDisjunction 68 = .ok (.iconst 0, 1) := by decide +kernel
theorem dX7_useDisjunction_69 : decode cX7_useDisjunction 69 = .ok (.ireturn, 1) := by decide +kernel
theorem dX7_useDisjunction_70 : decode cX7_useDisjunction 70 = .ok (.aload_n 0, 1) := by decide +kernel
theorem dX7_useDisjunction_71 : decode cX7_useDisjunction 71 = .ok (.getfield 29, 3) := by decide +kernel
theorem dX7_useDisjunction_74 : decode cX7_useDisjunction 74 = .ok (.iload_n 1, 1) := by decide +kernel
theorem dX7_useDisjunction_75 : decode cX7_useDisjunction 75 = .ok (.iaload, 1) := by decide +kernel
theorem dX7_useDisjunction_76 : decode cX7_useDisjunction 76 = .ok (.istore 4, 2) := by decide +kernel
theorem dX7_useDisjunction_78 : decode cX7_useDisjunction 78 = .ok (.aload_n 0, 1) := by decide +kernel
theorem dX7_useDisjunction_79 : decode cX7_useDisjunction 79 = .ok (.getfield 9, 3) := by decide +kernel
theorem dX7_useDisjunction_82 : decode cX7_useDisjunction 82 = .ok (.iload 4, 2) := by decide +kernel
theorem dX7_useDisjunction_84 : decode cX7_useDisjunction 84 = .ok (.caload, 1) := by decide +kernel
theorem dX7_useDisjunction_85 : decode cX7_useDisjunction 85 = .ok (.bipush 65, 2) := by decide +kernel
theorem dX7_useDisjunction_87 : decode cX7_useDisjunction 87 = .ok (.if_icmp .ne 62, 3) := by decide +kernel
theorem dX7_useDisjunction_90 : decode cX7_useDisjunction 90 = .ok (.aload_n 0, 1) := by decide +kernel
theorem dX7_useDisjunction_91 : decode cX7_useDisjunction 91 = .ok (.getfield 29, 3) := by decide +kernel
theorem dX7_useDisjunction_94 : decode cX7_useDisjunction 94 = .ok (.aload_n 0, 1) := by decide +kernel
theorem dX7_useDisjunction_95 : decode cX7_useDisjunction 95 = .ok (.getfield 50, 3) := by decide +kernel
theorem dX7_useDisjunction_98 : decode cX7_useDisjunction 98 = .ok (.iload_n 2, 1) := by decide +kernel
theorem dX7_useDisjunction_99 : decode cX7_useDisjunction 99 = .ok (.iaload, 1) := by decide +kernel
theorem dX7_useDisjunction_100 : decode cX7_useDisjunction 100 = .ok (.iaload, 1) := by decide +kernel
theorem dX7_useDisjunction_101 : decode cX7_useDisjunction 101 = .ok (.aload_n 0, 1) := by decide +kernel
theorem dX7_useDisjunction_102 : decode cX7_useDisjunction 102 = .ok (.getfield 13, 3) := by decide +kernel
theorem dX7_useDisjunction_105 : decode cX7_useDisjunction 105 = .ok (.iload 4, 2) := by decide +kernel
theorem dX7_useDisjunction_107 : decode cX7_useDisjunction 107 = .ok (.iaload, 1) := by decide +kernel
theorem dX7_useDisjunction_108 : decode cX7_useDisjunction 108 = .ok (.if_icmp .ne 41, 3) := by decide +kernel
theorem dX7_useDisjunction_111 : decode cX7_useDisjunction 111 = .ok (.aload_n 0, 1) := by decide +kernel
theorem dX7_useDisjunction_112 : decode cX7_useDisjunction 112 = .ok (.getfield 29, 3) := by decide +kernel
theorem dX7_useDisjunction_115 : decode cX7_useDisjunction 115 = .ok (.aload_n 0, 1) := by decide +kernel
theorem dX7_useDisjunction_116 : decode cX7_useDisjunction 116 = .ok (.getfield 50, 3) := by decide +kernel
theorem dX7_useDisjunction_119 : decode cX7_useDisjunction 119 = .ok (.iload_n 3, 1) := by decide +kernel
theorem dX7_useDisjunction_120 : decode cX7_useDisjunction 120 = .ok (.iaload, 1) := by decide +kernel
theorem dX7_useDisjunction_121 : decode cX7_useDisjunction 121 = .ok (.iaload, 1) := by decide +kernel
theorem dX7_useDisjunction_122 : decode cX7_useDisjunction 122 = .ok (.aload_n 0, 1) := by decide +kernel
theorem dX7_useDisjunction_123 : decode cX7_useDisjunction 123 = .ok (.getfield 17, 3) := by decide +kernel
theorem dX7_useDisjunction_126 : decode cX7_useDisjunction 126 = .ok (.iload 4, 2) := by decide +kernel
theorem dX7_useDisjunction_128 : decode cX7_useDisjunction 128 = .ok (.iaload, 1) := by decide +kernel
theorem dX7_useDisjunction_129 : decode cX7_useDisjunction 129 = .ok (.if_icmp .ne 20, 3) := by decide +kernel
theorem dX7_useDisjunction_132 : decode cX7_useDisjunction 132 = .ok (.aload_n 0, 1) := by decide +kernel
theorem dX7_useDisjunction_133 : decode cX7_useDisjunction 133 = .ok (.iload_n 2, 1) := by decide +kernel
theorem dX7_useDisjunction_134 : decode cX7_useDisjunction 134 = .ok (.invokevirtual 171, 3) := by decide +kernel
theorem dX7_useDisjunction_137 : decode cX7_useDisjunction 137 = .ok (.aload_n 0, 1) := by decide +kernel
theorem dX7_useDisjunction_138 : decode cX7_useDisjunction 138 = .ok (.iload_n 3, 1) := by decide +kernel
theorem dX7_useDisjunction_139 : decode cX7_useDisjunction 139 = .ok (.invokevirtual 171, 3) := by decide +kernel
theorem dX7_useDisjunction_142 : decode cX7_useDisjunction 142 = .ok (.if_icmp .ne 7, 3) := by decide +kernel
theorem dX7_useDisjunction_145 : decode cX7_useDisjunction 145 = .ok (.iconst 1, 1) := by decide +kernel
theorem dX7_useDisjunction_146 : decode cX7_useDisjunction 146 = .ok (.goto 4, 3) := by decide +kernel
theorem dX7_useDisjunction_149 : decode cX7_useDisjunction 149 = .ok (.iconst 0, 1) := by decide +kernel
theorem dX7_useDisjunction_150 : decode cX7_useDisjunction 150 = .ok (.istore 5, 2) := by decide +kernel
theorem dX7_useDisjunction_152 : decode cX7_useDisjunction 152 = .ok (.iload 5, 2) := by decide +kernel
theorem dX7_useDisjunction_154 : decode cX7_useDisjunction 154 = .ok (.ifCond .eq 12, 3) := by decide +kernel
theorem dX7_useDisjunction_157 : decode cX7_useDisjunction 157 = .ok (.aload_n 0, 1) := by decide +kernel
theorem dX7_useDisjunction_158 : decode cX7_useDisjunction 158 = .ok (.getfield 94, 3) := by decide +kernel
theorem dX7_useDisjunction_161 : decode cX7_useDisjunction 161 = .ok (.bipush 60, 2) := by decide +kernel
theorem dX7_useDisjunction_163 : decode cX7_useDisjunction 163 = .ok (.if_icmp .ne 18, 3) := by decide +kernel
theorem dX7_useDisjunction_166 : decode cX7_useDisjunction 166 = .ok (.aload_n 0, 1) := by decide +kernel
theorem dX7_useDisjunction_167 : decode cX7_useDisjunction 167 = .ok (.iload 5, 2) := by decide +kernel
theorem dX7_useDisjunction_169 : decode cX7_useDisjunction 169 = .ok (.ifCond .eq 7, 3) := by decide +kernel
theorem dX7_useDisjunction_172 : decode cX7_useDisjunction 172 = .ok (.iconst 4, 1) := by decide +kernel
theorem dX7_useDisjunction_173 : decode cX7_useDisjunction 173 = .ok (.goto 4, 3) := by decide +kernel
theorem dX7_useDisjunction_176 : decode cX7_useDisjunction 176 = .ok (.iconst 3, 1) := by decide +kernel
theorem dX7_useDisjunction_177 : decode cX7_useDisjunction 177 = .ok (.invokevirtual 132, 3) := by decide +kernel
theorem dX7_useDisjunction_180 : decode cX7_useDisjunction 180 = .ok (.ireturn, 1) := by decide +kernel
theorem dX7_useDisjunction_181 : decode cX7_useDisjunction 181 = .ok (.aload_n 0, 1) := by decide +kernel
theorem dX7_useDisjunction_182 : decode cX7_useDisjunction 182 = .ok (.aload_n 0, 1) := by decide +kernel
theorem dX7_useDisjunction_183 : decode cX7_useDisjunction 183 = .ok (.iload_n 2, 1) := by decide +kernel
theorem dX7_useDisjunction_184 : decode cX7_useDisjunction 184 = .ok (.invokevirtual 171, 3) := by decide +kernel
theorem dX7_useDisjunction_187 : decode cX7_useDisjunction 187 = .ok (.bipush 118, 2) := by decide +kernel
theorem dX7_useDisjunction_189 : decode cX7_useDisjunction 189 = .ok (.iload_n 1, 1) := by decide +kernel
theorem dX7_useDisjunction_190 : decode cX7_useDisjunction 190 = .ok (.iconst (-1), 1) := by decide +kernel
theorem dX7_useDisjunction_191 : decode cX7_useDisjunction 191 = .ok (.iload_n 2, 1) := by decide +kernel
theorem dX7_useDisjunction_192 : decode cX7_useDisjunction 192 = .ok (.iload_n 3, 1) := by decide +kernel
theorem dX7_useDisjunction_193 : decode cX7_useDisjunction 193 = .ok (.invokevirtual 145, 3) := by decide +kernel
theorem dX7_useDisjunction_196 : decode cX7_useDisjunction 196 = .ok (.ireturn, 1) := by decide +kernel
theorem dX7_makeImplication_0 : decode cX7_makeImplication 0 = .ok (.aload_n 0, 1) := by decide +kernel
theorem dX7_makeImplication_1 : decode cX7_makeImplication 1 = .ok (.iload_n 1, 1) := by decide +kernel
theorem dX7_makeImplication_2 : decode cX7_makeImplication 2 = .ok (.invokevirtual 174, 3) := by decide +kernel
theorem dX7_makeImplication_5 : decode cX7_makeImplication 5 = .ok (.ifCond .eq 7, 3) := by decide +kernel
theorem dX7_makeImplication_8 : decode cX7_makeImplication 8 = .ok (.iconst 0, 1) := by decide +kernel
theorem dX7_makeImplication_9 : decode cX7_makeImplication 9 = .ok (.goto 31, 3) := by decide +kernel
theorem dX7_makeImplication_12 : decode cX7_makeImplication 12 = .ok (.aload_n 0, 1) := by decide +kernel
theorem dX7_makeImplication_13 : decode cX7_makeImplication 13 = .ok (.bipush 67, 2) := by decide +kernel
theorem dX7_makeImplication_15 : decode cX7_makeImplication 15 = .ok (.aload_n 0, 1) := by decide +kernel
theorem dX7_makeImplication_16 : decode cX7_makeImplication 16 = .ok (.getfield 29, 3) := by decide +kernel
theorem dX7_makeImplication_19 : decode cX7_makeImplication 19 = .ok (.aload_n 0, 1) := by decide +kernel
theorem dX7_makeImplication_20 : decode cX7_makeImplication 20 = .ok (.getfield 50, 3) := by decide +kernel
theorem dX7_makeImplication_23 : decode cX7_makeImplication 23 = .ok (.iload_n 1, 1) := by decide +kernel
theorem dX7_makeImplication_24 : decode cX7_makeImplication 24 = .ok (.iaload, 1) := by decide +kernel
theorem dX7_makeImplication_25 : decode cX7_makeImplication 25 = .ok (.iaload, 1) := by decide +kernel
theorem dX7_makeImplication_26 : decode cX7_makeImplication 26 = .ok (.aload_n 0, 1) := by decide +kernel
theorem dX7_makeImplication_27 : decode cX7_makeImplication 27 = .ok (.iload_n 1, 1) := by decide +kernel
theorem dX7_makeImplication_28 : decode cX7_makeImplication 28 = .ok (.invokevirtual 171, 3) := by decide +kernel
theorem dX7_makeImplication_31 : decode cX7_makeImplication 31 = .ok (.iconst 3, 1) := by decide +kernel
theorem dX7_makeImplication_32 : decode cX7_makeImplication 32 = .ok (.bipush 99, 2) := by decide +kernel
theorem dX7_makeImplication_34 : decode cX7_makeImplication 34 = .ok (.iconst (-1), 1) := by decide +kernel
theorem dX7_makeImplication_35 : decode cX7_makeImplication 35 = .ok (.iconst (-1), 1) := by decide +kernel
theorem dX7_makeImplication_36 : decode cX7_makeImplication 36 = .ok (.iload_n 1, 1) := by decide +kernel
theorem dX7_makeImplication_37 : decode cX7_makeImplication 37 = .ok (.invokevirtual 167, 3) := by decide +kernel
theorem dX7_makeImplication_40 : decode cX7_makeImplication 40 = .ok (.ireturn, 1) := by decide +kernel
theorem dX7_useImplication_0 : decode cX7_useImplication 0 = .ok (.aload_n 0, 1) := by decide +kernel
theorem dX7_useImplication_1 : decode cX7_useImplication 1 = .ok (.iload_n 1, 1) := by decide +kernel
theorem dX7_useImplication_2 : decode cX7_useImplication 2 = .ok (.iload_n 2, 1) := by decide +kernel
theorem dX7_useImplication_3 : decode cX7_useImplication 3 = .ok (.invokevirtual 164, 3) := by decide +kernel
theorem dX7_useImplication_6 : decode cX7_useImplication 6 = .ok (.ifCond .eq 5, 3) := by decide +kernel
theorem dX7_useImplication_9 : decode cX7_useImplication 9 = .ok (.iconst 0, 1) := by decide +kernel
theorem dX7_useImplication_10 : decode cX7_useImplication 10 = .ok (.ireturn, 1) := by decide +kernel
theorem dX7_useImplication_11 : decode cX7_useImplication 11 = .ok (.aload_n 0, 1) := by decide +kernel
theorem dX7_useImplication_12 : decode cX7_useImplication 12 = .ok (.getfield 29, 3) := by decide +kernel
theorem dX7_useImplication_15 : decode cX7_useImplication 15 = .ok (.iload_n 1, 1) := by decide +kernel
theorem dX7_useImplication_16 : decode cX7_useImplication 16 = .ok (.iaload, 1) := by decide +kernel
theorem dX7_useImplication_17 : decode cX7_useImplication 17 = .ok (.istore_n 3, 1) := by decide +kernel
theorem dX7_useImplication_18 : decode cX7_useImplication 18 = .ok (.aload_n 0, 1) := by decide +kernel
theorem dX7_useImplication_19 : decode cX7_useImplication 19 = .ok (.getfield 9, 3) := by decide +kernel
theorem dX7_useImplication_22 : decode cX7_useImplication 22 = .ok (.iload_n 3, 1) := by decide +kernel
theorem dX7_useImplication_23 : decode cX7_useImplication 23 = .ok (.caload, 1) := by decide +kernel
theorem dX7_useImplication_24 : decode cX7_useImplication 24 = .ok (.bipush 67, 2) := by decide +kernel
theorem dX7_useImplication_26 : decode cX7_useImplication 26 = .ok (.if_icmp .ne 22, 3) := by decide +kernel
theorem dX7_useImplication_29 : decode cX7_useImplication 29 = .ok (.aload_n 0, 1) := by decide +kernel
theorem dX7_useImplication_30 : decode cX7_useImplication 30 = .ok (.getfield 13, 3) := by decide +kernel
theorem dX7_useImplication_33 : decode cX7_useImplication 33 = .ok (.iload_n 3, 1) := by decide +kernel
theorem dX7_useImplication_34 : decode cX7_useImplication 34 = .ok (.iaload, 1) := by decide +kernel
theorem dX7_useImplication_35 : decode cX7_useImplication 35 = .ok (.aload_n 0, 1) := by decide +kernel
theorem dX7_useImplication_36 : decode cX7_useImplication 36 = .ok (.getfield 29, 3) := by decide +kernel
theorem dX7_useImplication_39 : decode cX7_useImplication 39 = .ok (.iload_n 2, 1) := by decide +kernel
theorem dX7_useImplication_40 : decode cX7_useImplication 40 = .ok (.iaload, 1) := by decide +kernel
theorem dX7_useImplication_41 : decode cX7_useImplication 41 = .ok (.if_icmp .ne 7, 3) := by decide +kernel
theorem dX7_useImplication_44 : decode cX7_useImplication 44 = .ok (.iconst 1, 1) := by decide +kernel
theorem dX7_useImplication_45 : decode cX7_useImplication 45 = .ok (.goto 4, 3) := by decide +kernel
theorem dX7_useImplication_48 : decode cX7_useImplication 48 = .ok (.iconst 0, 1) := by decide +kernel
theorem dX7_useImplication_49 : decode cX7_useImplication 49 = .ok (.istore 4, 2) := by decide +kernel
theorem dX7_useImplication_51 : decode cX7_useImplication 51 = .ok (.iload 4, 2) := by decide +kernel
theorem dX7_useImplication_53 : decode cX7_useImplication 53 = .ok (.ifCond .eq 12, 3) := by decide +kernel
theorem dX7_useImplication_56 : decode cX7_useImplication 56 = .ok (.aload_n 0, 1) := by decide +kernel
theorem dX7_useImplication_57 : decode cX7_useImplication 57 = .ok (.getfield 94, 3) := by decide +kernel
theorem dX7_useImplication_60 : decode cX7_useImplication 60 = .ok (.bipush 60, 2) := by decide +kernel
theorem dX7_useImplication_62 : decode cX7_useImplication 62 = .ok (.if_icmp .ne 20, 3) := by decide +kernel
theorem dX7_useImplication_65 : decode cX7_useImplication 65 = .ok (.aload_n 0, 1) := by decide +kernel
theorem dX7_useImplication_66 : decode cX7_useImplication 66 = .ok (.iload 4, 2) := by decide +kernel
theorem dX7_useImplication_68 : decode cX7_useImplication 68 = .ok (.ifCond .eq 7, 3) := by decide +kernel
theorem dX7_useImplication_71 : decode cX7_useImplication 71 = .ok (.iconst 4, 1) := by decide +kernel
theorem dX7_useImplication_72 : decode cX7_useImplication 72 = .ok (.goto 4, 3) := by decide +kernel
theorem dX7_useImplication_75 : decode cX7_useImplication 75 = .ok (.iconst 3, 1) := by decide +kernel
theorem dX7_useImplication_76 : decode cX7_useImplication 76 = .ok (.invokevirtual 132, 3) := by decide +kernel
theorem dX7_useImplication_79 : decode cX7_useImplication 79 = .ok (.goto 19, 3) := by decide +kernel
theorem dX7_useImplication_82 : decode cX7_useImplication 82 = .ok (.aload_n 0, 1) := by decide +kernel
theorem dX7_useImplication_83 : decode cX7_useImplication 83 = .ok (.aload_n 0, 1) := by decide +kernel
theorem dX7_useImplication_84 : decode cX7_useImplication 84 = .ok (.getfield 17, 3) := by decide +kernel
theorem dX7_useImplication_87 : decode cX7_useImplication 87 = .ok (.iload_n 3, 1) := by decide +kernel
theorem dX7_useImplication_88 : decode cX7_useImplication 88 = .ok (.iaload, 1) := by decide +kernel
theorem dX7_useImplication_89 : decode cX7_useImplication 89 = .ok (.bipush 109, 2) := by decide +kernel
theorem dX7_useImplication_91 : decode cX7_useImplication 91 = .ok (.iload_n 1, 1) := by decide +kernel
theorem dX7_useImplication_92 : decode cX7_useImplication 92 = .ok (.iload_n 2, 1) := by decide +kernel
theorem dX7_useImplication_93 : decode cX7_useImplication 93 = .ok (.iconst (-1), 1) := by decide +kernel
theorem dX7_useImplication_94 : decode cX7_useImplication 94 = .ok (.iconst (-1), 1) := by decide +kernel
theorem dX7_useImplication_95 : decode cX7_useImplication 95 = .ok (.invokevirtual 145, 3) := by decide +kernel
theorem dX7_useImplication_98 : decode cX7_useImplication 98 = .ok (.ireturn, 1) := by decide +kernel
theorem dX7_makeNegation_0 : decode cX7_makeNegation 0 = .ok (.aload_n 0, 1) := by decide +kernel
theorem dX7_makeNegation_1 : decode cX7_makeNegation 1 = .ok (.iload_n 1, 1) := by decide +kernel
theorem dX7_makeNegation_2 : decode cX7_makeNegation 2 = .ok (.invokevirtual 174, 3) := by decide +kernel
theorem dX7_makeNegation_5 : decode cX7_makeNegation 5 = .ok (.ifCond .eq 5, 3) := by decide +kernel
theorem dX7_makeNegation_8 : decode cX7_makeNegation 8 = .ok (.iconst 0, 1) := by decide +kernel
theorem dX7_makeNegation_9 : decode cX7_makeNegation 9 = .ok (.ireturn, 1) := by decide +kernel
theorem dX7_makeNegation_10 : decode cX7_makeNegation 10 = .ok (.aload_n 0, 1) := by decide +kernel
theorem dX7_makeNegation_11 : decode cX7_makeNegation 11 = .ok (.getfield 9, 3) := by decide +kernel
theorem dX7_makeNegation_14 : decode cX7_makeNegation 14 = .ok (.aload_n 0, 1) := by decide +kernel
theorem dX7_makeNegation_15 : decode cX7_makeNegation 15 = .ok (.iload_n 1, 1) := by decide +kernel
theorem dX7_makeNegation_16 : decode cX7_makeNegation 16 = .ok (.invokevirtual 171, 3) := by decide +kernel
theorem dX7_makeNegation_19 : decode cX7_makeNegation 19 = .ok (.caload, 1) := by decide +kernel
theorem dX7_makeNegation_20 : decode cX7_makeNegation 20 = .ok (.bipush 70, 2) := by decide +kernel
theorem dX7_makeNegation_22 : decode cX7_makeNegation 22 = .ok (.if_icmp .eq 11, 3) := by decide +kernel
theorem dX7_makeNegation_25 : decode cX7_makeNegation 25 = .ok (.aload_n 0, 1) := by decide +kernel
theorem dX7_makeNegation_26 : decode cX7_makeNegation 26 = .ok (.iconst 3, 1) := by decide +kernel
theorem dX7_makeNegation_27 : decode cX7_makeNegation 27 = .ok (.invokevirtual 132, 3) := by decide +kernel
theorem dX7_makeNegation_30 : decode cX7_makeNegation 30 = .ok (.goto 27, 3) := by decide +kernel
theorem dX7_makeNegation_33 : decode cX7_makeNegation 33 = .ok (.aload_n 0, 1) := by decide +kernel
theorem dX7_makeNegation_34 : decode cX7_makeNegation 34 = .ok (.bipush 78, 2) := by decide +kernel
theorem dX7_makeNegation_36 : decode cX7_makeNegation 36 = .ok (.aload_n 0, 1) := by decide +kernel
theorem dX7_makeNegation_37 : decode cX7_makeNegation 37 = .ok (.getfield 29, 3) := by decide +kernel
theorem dX7_makeNegation_40 : decode cX7_makeNegation 40 = .ok (.aload_n 0, 1) := by decide +kernel
theorem dX7_makeNegation_41 : decode cX7_makeNegation 41 = .ok (.getfield 50, 3) := by decide +kernel
theorem dX7_makeNegation_44 : decode cX7_makeNegation 44 = .ok (.iload_n 1, 1) := by decide +kernel
theorem dX7_makeNegation_45 : decode cX7_makeNegation 45 = .ok (.iaload, 1) := by decide +kernel
theorem dX7_makeNegation_46 : decode cX7_makeNegation 46 = .ok (.iaload, 1) := by decide +kernel
theorem dX7_makeNegation_47 : decode cX7_makeNegation 47 = .ok (.iconst (-1), 1) := by decide +kernel
theorem dX7_makeNegation_48 : decode cX7_makeNegation 48 = .ok (.iconst 4, 1) := by decide +kernel
theorem dX7_makeNegation_49 : decode cX7_makeNegation 49 = .ok (.bipush 105, 2) := by decide +kernel
theorem dX7_makeNegation_51 : decode cX7_makeNegation 51 = .ok (.iconst (-1), 1) := by decide +kernel
theorem dX7_makeNegation_52 : decode cX7_makeNegation 52 = .ok (.iconst (-1), 1) := by decide +kernel
theorem dX7_makeNegation_53 : decode cX7_makeNegation 53 = .ok (.iload_n 1, 1) := by decide +kernel
theorem dX7_makeNegation_54 : decode cX7_makeNegation 54 = .ok (.invokevirtual 167, 3) := by decide +kernel
theorem dX7_makeNegation_57 : decode cX7_makeNegation 57 = .ok (.ireturn, 1) := by decide +kernel
theorem dX7_useNegation_0 : decode cX7_useNegation 0 = .ok (.aload_n 0, 1) := by decide +kernel
theorem dX7_useNegation_1 : decode cX7_useNegation 1 = .ok (.iload_n 1, 1) := by decide +kernel
theorem dX7_useNegation_2 : decode cX7_useNegation 2 = .ok (.iload_n 2, 1) := by decide +kernel
theorem dX7_useNegation_3 : decode cX7_useNegation 3 = .ok (.invokevirtual 164, 3) := by decide +kernel
theorem dX7_useNegation_6 : decode cX7_useNegation 6 = .ok (.ifCond .eq 5, 3) := by decide +kernel
theorem dX7_useNegation_9 : decode cX7_useNegation 9 = .ok (.iconst 0, 1) := by decide +kernel
theorem dX7_useNegation_10 : decode cX7_useNegation 10 = .ok (.ireturn, 1) := by decide +kernel
theorem dX7_useNegation_11 : decode cX7_useNegation 11 = .ok (.aload_n 0, 1) := by decide +kernel
theorem dX7_useNegation_12 : decode cX7_useNegation 12 = .ok (.getfield 29, 3) := by decide +kernel
theorem dX7_useNegation_15 : decode cX7_useNegation 15 = .ok (.iload_n 1, 1) := by decide +kernel
theorem dX7_useNegation_16 : decode cX7_useNegation 16 = .ok (.iaload, 1) := by decide +kernel
theorem dX7_useNegation_17 : decode cX7_useNegation 17 = .ok (.istore_n 3, 1) := by decide +kernel
theorem dX7_useNegation_18 : decode cX7_useNegation 18 = .ok (.aload_n 0, 1) := by decide +kernel
theorem dX7_useNegation_19 : decode cX7_useNegation 19 = .ok (.getfield 9, 3) := by decide +kernel
theorem dX7_useNegation_22 : decode cX7_useNegation 22 = .ok (.iload_n 3, 1) := by decide +kernel
theorem dX7_useNegation_23 : decode cX7_useNegation 23 = .ok (.caload, 1) := by decide +kernel
theorem dX7_useNegation_24 : decode cX7_useNegation 24 = .ok (.bipush 78, 2) := by decide +kernel
theorem dX7_useNegation_26 : decode cX7_useNegation 26 = .ok (.if_icmp .ne 22, 3) := by decide +kernel
theorem dX7_useNegation_29 : decode cX7_useNegation 29 = .ok (.aload_n 0, 1) := by decide +kernel
theorem dX7_useNegation_30 : decode cX7_useNegation 30 = .ok (.getfield 13, 3) := by decide +kernel
theorem dX7_useNegation_33 : decode cX7_useNegation 33 = .ok (.iload_n 3, 1) := by decide +kernel
theorem dX7_useNegation_34 : decode cX7_useNegation 34 = .ok (.iaload, 1) := by decide +kernel
theorem dX7_useNegation_35 : decode cX7_useNegation 35 = .ok (.aload_n 0, 1) := by decide +kernel
theorem dX7_useNegation_36 : decode cX7_useNegation 36 = .ok (.getfield 29, 3) := by decide +kernel
theorem dX7_useNegation_39 : decode cX7_useNegation 39 = .ok (.iload_n 2, 1) := by decide +kernel
theorem dX7_useNegation_40 : decode cX7_useNegation 40 = .ok (.iaload, 1) := by decide +kernel
theorem dX7_useNegation_41 : decode cX7_useNegation 41 = .ok (.if_icmp .ne 7, 3) := by decide +kernel
theorem dX7_useNegation_44 : decode cX7_useNegation 44 = .ok (.iconst 1, 1) := by decide +kernel
theorem dX7_useNegation_45 : decode cX7_useNegation 45 = .ok (.goto 4, 3) := by decide +kernel
theorem dX7_useNegation_48 : decode cX7_useNegation 48 = .ok (.iconst 0, 1) := by decide +kernel
theorem dX7_useNegation_49 : decode cX7_useNegation 49 = .ok (.istore 4, 2) := by decide +kernel
theorem dX7_useNegation_51 : decode cX7_useNegation 51 = .ok (.iload 4, 2) := by decide +kernel
theorem dX7_useNegation_53 : decode cX7_useNegation 53 = .ok (.ifCond .ne 11, 3) := by decide +kernel
theorem dX7_useNegation_56 : decode cX7_useNegation 56 = .ok (.aload_n 0, 1) := by decide +kernel
theorem dX7_useNegation_57 : decode cX7_useNegation 57 = .ok (.iconst 3, 1) := by decide +kernel
theorem dX7_useNegation_58 : decode cX7_useNegation 58 = .ok (.invokevirtual 132, 3) := by decide +kernel
theorem dX7_useNegation_61 : decode cX7_useNegation 61 = .ok (.goto 17, 3) := by decide +kernel
theorem dX7_useNegation_64 : decode cX7_useNegation 64 = .ok (.aload_n 0, 1) := by decide +kernel
theorem dX7_useNegation_65 : decode cX7_useNegation 65 = .ok (.bipush 70, 2) := by decide +kernel
theorem dX7_useNegation_67 : decode cX7_useNegation 67 = .ok (.iconst (-1), 1) := by decide +kernel
theorem dX7_useNegation_68 : decode cX7_useNegation 68 = .ok (.iconst (-1), 1) := by decide +kernel
theorem dX7_useNegation_69 : decode cX7_useNegation 69 = .ok (.iconst 4, 1) := by decide +kernel
theorem dX7_useNegation_70 : decode cX7_useNegation 70 = .ok (.bipush 110, 2) := by decide +kernel
theorem dX7_useNegation_72 : decode cX7_useNegation 72 = .ok (.iload_n 1, 1) := by decide +kernel
theorem dX7_useNegation_73 : decode cX7_useNegation 73 = .ok (.iload_n 2, 1) := by decide +kernel
theorem dX7_useNegation_74 : decode cX7_useNegation 74 = .ok (.iconst (-1), 1) := by decide +kernel
theorem dX7_useNegation_75 : decode cX7_useNegation 75 = .ok (.invokevirtual 167, 3) := by decide +kernel
theorem dX7_useNegation_78 : decode cX7_useNegation 78 = .ok (.ireturn, 1) := by decide +kernel
theorem dX7_fromFalsum_0 : decode cX7_fromFalsum 0 = .ok (.aload_n 0, 1) := by decide +kernel
theorem dX7_fromFalsum_1 : decode cX7_fromFalsum 1 = .ok (.aload_n 0, 1) := by decide +kernel
theorem dX7_fromFalsum_2 : decode cX7_fromFalsum 2 = .ok (.iload_n 1, 1) := by decide +kernel
theorem dX7_fromFalsum_3 : decode cX7_fromFalsum 3 = .ok (.invokevirtual 149, 3) := by decide +kernel
theorem dX7_fromFalsum_6 : decode cX7_fromFalsum 6 = .ok (.ifCond .eq 11, 3) := by decide +kernel
theorem dX7_fromFalsum_9 : decode cX7_fromFalsum 9 = .ok (.aload_n 0, 1) := by decide +kernel
theorem dX7_fromFalsum_10 : decode cX7_fromFalsum 10 = .ok (.iload_n 2, 1) := by decide +kernel
theorem dX7_fromFalsum_11 : decode cX7_fromFalsum 11 = .ok (.invokevirtual 135, 3) := by decide +kernel
theorem dX7_fromFalsum_14 : decode cX7_fromFalsum 14 = .ok (.ifCond .ne 7, 3) := by decide +kernel
theorem dX7_fromFalsum_17 : decode cX7_fromFalsum 17 = .ok (.iconst 1, 1) := by decide +kernel
theorem dX7_fromFalsum_18 : decode cX7_fromFalsum 18 = .ok (.goto 49, 3) := by decide +kernel
theorem dX7_fromFalsum_21 : decode cX7_fromFalsum 21 = .ok (.aload_n 0, 1) := by decide +kernel
theorem dX7_fromFalsum_22 : decode cX7_fromFalsum 22 = .ok (.iload_n 1, 1) := by decide +kernel
theorem dX7_fromFalsum_23 : decode cX7_fromFalsum 23 = .ok (.invokevirtual 152, 3) := by decide +kernel
theorem dX7_fromFalsum_26 : decode cX7_fromFalsum 26 = .ok (.ifCond .ne 7, 3) := by decide +kernel
theorem dX7_fromFalsum_29 : decode cX7_fromFalsum 29 = .ok (.iconst 2, 1) := by decide +kernel
theorem dX7_fromFalsum_30 : decode cX7_fromFalsum 30 = .ok (.goto 37, 3) := by decide +kernel
theorem dX7_fromFalsum_33 : decode cX7_fromFalsum 33 = .ok (.aload_n 0, 1) := by decide +kernel
theorem dX7_fromFalsum_34 : decode cX7_fromFalsum 34 = .ok (.getfield 9, 3) := by decide +kernel
theorem dX7_fromFalsum_37 : decode cX7_fromFalsum 37 = .ok (.aload_n 0, 1) := by decide +kernel
theorem dX7_fromFalsum_38 : decode cX7_fromFalsum 38 = .ok (.getfield 29, 3) := by decide +kernel
theorem dX7_fromFalsum_41 : decode cX7_fromFalsum 41 = .ok (.iload_n 1, 1) := by decide +kernel
theorem dX7_fromFalsum_42 : decode cX7_fromFalsum 42 = .ok (.iaload, 1) := by decide +kernel
theorem dX7_fromFalsum_43 : decode cX7_fromFalsum 43 = .ok (.caload, 1) := by decide +kernel
theorem dX7_fromFalsum_44 : decode cX7_fromFalsum 44 = .ok (.bipush 70, 2) := by decide +kernel
theorem dX7_fromFalsum_46 : decode cX7_fromFalsum 46 = .ok (.if_icmp .eq 7, 3) := by decide +kernel
theorem dX7_fromFalsum_49 : decode cX7_fromFalsum 49 = .ok (.iconst 3, 1) := by decide +kernel
theorem dX7_fromFalsum_50 : decode cX7_fromFalsum 50 = .ok (.goto 17, 3) := by decide +kernel
theorem dX7_fromFalsum_53 : decode cX7_fromFalsum 53 = .ok (.aload_n 0, 1) := by decide +kernel
theorem dX7_fromFalsum_54 : decode cX7_fromFalsum 54 = .ok (.getfield 94, 3) := by decide +kernel
theorem dX7_fromFalsum_57 : decode cX7_fromFalsum 57 = .ok (.bipush 60, 2) := by decide +kernel
theorem dX7_fromFalsum_59 : decode cX7_fromFalsum 59 = .ok (.if_icmp .ne 7, 3) := by decide +kernel
theorem dX7_fromFalsum_62 : decode cX7_fromFalsum 62 = .ok (.iconst 4, 1) := by decide +kernel
theorem dX7_fromFalsum_63 : decode cX7_fromFalsum 63 = .ok (.goto 4, 3) := by decide +kernel
theorem dX7_fromFalsum_66 : decode cX7_fromFalsum 66 = .ok (.iconst 0, 1) := by decide +kernel
theorem dX7_fromFalsum_67 : decode cX7_fromFalsum 67 = .ok (.putfield 84, 3) := by decide +kernel
theorem dX7_fromFalsum_70 : decode cX7_fromFalsum 70 = .ok (.aload_n 0, 1) := by decide +kernel
theorem dX7_fromFalsum_71 : decode cX7_fromFalsum 71 = .ok (.getfield 84, 3) := by decide +kernel
theorem dX7_fromFalsum_74 : decode cX7_fromFalsum 74 = .ok (.ifCond .le 7, 3) := by decide +kernel
theorem dX7_fromFalsum_77 : decode cX7_fromFalsum 77 = .ok (.iconst 0, 1) := by decide +kernel
theorem dX7_fromFalsum_78 : decode cX7_fromFalsum 78 = .ok (.goto 14, 3) := by decide +kernel
theorem dX7_fromFalsum_81 : decode cX7_fromFalsum 81 = .ok (.aload_n 0, 1) := by decide +kernel
theorem dX7_fromFalsum_82 : decode cX7_fromFalsum 82 = .ok (.iload_n 2, 1) := by decide +kernel
theorem dX7_fromFalsum_83 : decode cX7_fromFalsum 83 = .ok (.bipush 120, 2) := by decide +kernel
theorem dX7_fromFalsum_85 : decode cX7_fromFalsum 85 = .ok (.iload_n 1, 1) := by decide +kernel
theorem dX7_fromFalsum_86 : decode cX7_fromFalsum 86 = .ok (.iconst (-1), 1) := by decide +kernel
theorem dX7_fromFalsum_87 : decode cX7_fromFalsum 87 = .ok (.iconst (-1), 1) := by decide +kernel
theorem dX7_fromFalsum_88 : decode cX7_fromFalsum 88 = .ok (.iconst (-1), 1) := by decide +kernel
theorem dX7_fromFalsum_89 : decode cX7_fromFalsum 89 = .ok (.invokevirtual 145, 3) := by decide +kernel
theorem dX7_fromFalsum_92 : decode cX7_fromFalsum 92 = .ok (.ireturn, 1) := by decide +kernel
theorem dX7_doubleNegation_0 : decode cX7_doubleNegation 0 = .ok (.aload_n 0, 1) := by decide +kernel
theorem dX7_doubleNegation_1 : decode cX7_doubleNegation 1 = .ok (.iload_n 1, 1) := by decide +kernel
theorem dX7_doubleNegation_2 : decode cX7_doubleNegation 2 = .ok (.invokevirtual 161, 3) := by decide +kernel
theorem dX7_doubleNegation_5 : decode cX7_doubleNegation 5 = .ok (.ifCond .eq 5, 3) := by decide +kernel
theorem dX7_doubleNegation_8 : decode cX7_doubleNegation 8 = .ok (.iconst 0, 1) := by decide +kernel
theorem dX7_doubleNegation_9 : decode cX7_doubleNegation 9 = .ok (.ireturn, 1) := by decide +kernel
theorem dX7_doubleNegation_10 : decode cX7_doubleNegation 10 = .ok (.aload_n 0, 1) := by decide +kernel
theorem dX7_doubleNegation_11 : decode cX7_doubleNegation 11 = .ok (.getfield 29, 3) := by decide +kernel
theorem dX7_doubleNegation_14 : decode cX7_doubleNegation 14 = .ok (.iload_n 1, 1) := by decide +kernel
theorem dX7_doubleNegation_15 : decode cX7_doubleNegation 15 = .ok (.iaload, 1) := by decide +kernel
theorem dX7_doubleNegation_16 : decode cX7_doubleNegation 16 = .ok (.istore_n 2, 1) := by decide +kernel
theorem dX7_doubleNegation_17 : decode cX7_doubleNegation 17 = .ok (.aload_n 0, 1) := by decide +kernel
theorem dX7_doubleNegation_18 : decode cX7_doubleNegation 18 = .ok (.getfield 9, 3) := by decide +kernel
theorem dX7_doubleNegation_21 : decode cX7_doubleNegation 21 = .ok (.iload_n 2, 1) := by decide +kernel
theorem dX7_doubleNegation_22 : decode cX7_doubleNegation 22 = .ok (.caload, 1) := by decide +kernel
theorem dX7_doubleNegation_23 : decode cX7_doubleNegation 23 = .ok (.bipush 78, 2) := by decide +kernel
theorem dX7_doubleNegation_25 : decode cX7_doubleNegation 25 = .ok (.if_icmp .ne 23, 3) := by decide +kernel
theorem dX7_doubleNegation_28 : decode cX7_doubleNegation 28 = .ok (.aload_n 0, 1) := by decide +kernel
theorem dX7_doubleNegation_29 : decode cX7_doubleNegation 29 = .ok (.getfield 9, 3) := by decide +kernel
theorem dX7_doubleNegation_32 : decode cX7_doubleNegation 32 = .ok (.aload_n 0, 1) := by decide +kernel
theorem dX7_doubleNegation_33 : decode cX7_doubleNegation 33 = .ok (.getfield 13, 3) := by decide +kernel
theorem dX7_doubleNegation_36 : decode cX7_doubleNegation 36 = .ok (.iload_n 2, 1) := by decide +kernel
theorem dX7_doubleNegation_37 : decode cX7_doubleNegation 37 = .ok (.iaload, 1) := by decide +kernel
theorem dX7_doubleNegation_38 : decode cX7_doubleNegation 38 = .ok (.caload, 1) := by decide +kernel
theorem dX7_doubleNegation_39 : decode cX7_doubleNegation 39 = .ok (.bipush 78, 2) := by decide +kernel
theorem dX7_doubleNegation_41 : decode cX7_doubleNegation 41 = .ok (.if_icmp .ne 7, 3) := by decide +kernel
theorem dX7_doubleNegation_44 : decode cX7_doubleNegation 44 = .ok (.iconst 1, 1) := by decide +kernel
theorem dX7_doubleNegation_45 : decode cX7_doubleNegation 45 = .ok (.goto 4, 3) := by decide +kernel
theorem dX7_doubleNegation_48 : decode cX7_doubleNegation 48 = .ok (.iconst 0, 1) := by decide +kernel
theorem dX7_doubleNegation_49 : decode cX7_doubleNegation 49 = .ok (.istore_n 3, 1) := by decide +kernel
theorem dX7_doubleNegation_50 : decode cX7_doubleNegation 50 = .ok (.iload_n 3, 1) := by decide +kernel
theorem dX7_doubleNegation_51 : decode cX7_doubleNegation 51 = .ok (.ifCond .eq 12, 3) := by decide +kernel
theorem dX7_doubleNegation_54 : decode cX7_doubleNegation 54 = .ok (.aload_n 0, 1) := by decide +kernel
theorem dX7_doubleNegation_55 : decode cX7_doubleNegation 55 = .ok (.getfield 94, 3) := by decide +kernel
theorem dX7_doubleNegation_58 : decode cX7_doubleNegation 58 = .ok (.bipush 60, 2) := by decide +kernel
theorem dX7_doubleNegation_60 : decode cX7_doubleNegation 60 = .ok (.if_icmp .ne 19, 3) := by decide +kernel
theorem dX7_doubleNegation_63 : decode cX7_doubleNegation 63 = .ok (.aload_n 0, 1) := by decide +kernel
theorem dX7_doubleNegation_64 : decode cX7_doubleNegation 64 = .ok (.iload_n 3, 1) := by decide +kernel
theorem dX7_doubleNegation_65 : decode cX7_doubleNegation 65 = .ok (.ifCond .eq 7, 3) := by decide +kernel
theorem dX7_doubleNegation_68 : decode cX7_doubleNegation 68 = .ok (.iconst 4, 1) := by decide +kernel
theorem dX7_doubleNegation_69 : decode cX7_doubleNegation 69 = .ok (.goto 4, 3) := by decide +kernel
theorem dX7_doubleNegation_72 : decode cX7_doubleNegation 72 = .ok (.iconst 3, 1) := by decide +kernel
theorem dX7_doubleNegation_73 : decode cX7_doubleNegation 73 = .ok (.invokevirtual 132, 3) := by decide +kernel
theorem dX7_doubleNegation_76 : decode cX7_doubleNegation 76 = .ok (.goto 24, 3) := by decide +kernel
theorem dX7_doubleNegation_79 : decode cX7_doubleNegation 79 = .ok (.aload_n 0, 1) := by decide +kernel
theorem dX7_doubleNegation_80 : decode cX7_doubleNegation 80 = .ok (.aload_n 0, 1) := by decide +kernel
theorem dX7_doubleNegation_81 : decode cX7_doubleNegation 81 = .ok (.getfield 13, 3) := by decide +kernel
theorem dX7_doubleNegation_84 : decode cX7_doubleNegation 84 = .ok (.aload_n 0, 1) := by decide +kernel
theorem dX7_doubleNegation_85 : decode cX7_doubleNegation 85 = .ok (.getfield 13, 3) := by decide +kernel
theorem dX7_doubleNegation_88 : decode cX7_doubleNegation 88 = .ok (.iload_n 2, 1) := by decide +kernel
theorem dX7_doubleNegation_89 : decode cX7_doubleNegation 89 = .ok (.iaload, 1) := by decide +kernel
theorem dX7_doubleNegation_90 : decode cX7_doubleNegation 90 = .ok (.iaload, 1) := by decide +kernel
theorem dX7_doubleNegation_91 : decode cX7_doubleNegation 91 = .ok (.bipush 100, 2) := by decide +kernel
theorem dX7_doubleNegation_93 : decode cX7_doubleNegation 93 = .ok (.iload_n 1, 1) := by decide +kernel
theorem dX7_doubleNegation_94 : decode cX7_doubleNegation 94 = .ok (.iconst (-1), 1) := by decide +kernel
theorem dX7_doubleNegation_95 : decode cX7_doubleNegation 95 = .ok (.iconst (-1), 1) := by decide +kernel
theorem dX7_doubleNegation_96 : decode cX7_doubleNegation 96 = .ok (.iconst (-1), 1) := by decide +kernel
theorem dX7_doubleNegation_97 : decode cX7_doubleNegation 97 = .ok (.invokevirtual 145, 3) := by decide +kernel
theorem dX7_doubleNegation_100 : decode cX7_doubleNegation 100 = .ok (.ireturn, 1) := by decide +kernel
theorem dX7_newProof_0 : decode cX7_newProof 0 = .ok (.aload_n 0, 1) := by decide +kernel
theorem dX7_newProof_1 : decode cX7_newProof 1 = .ok (.iconst 0, 1) := by decide +kernel
theorem dX7_newProof_2 : decode cX7_newProof 2 = .ok (.putfield 84, 3) := by decide +kernel
theorem dX7_newProof_5 : decode cX7_newProof 5 = .ok (.aload_n 0, 1) := by decide +kernel
theorem dX7_newProof_6 : decode cX7_newProof 6 = .ok (.getfield 94, 3) := by decide +kernel
theorem dX7_newProof_9 : decode cX7_newProof 9 = .ok (.istore_n 1, 1) := by decide +kernel
theorem dX7_newProof_10 : decode cX7_newProof 10 = .ok (.aload_n 0, 1) := by decide +kernel
theorem dX7_newProof_11 : decode cX7_newProof 11 = .ok (.iconst 0, 1) := by decide +kernel
theorem dX7_newProof_12 : decode cX7_newProof 12 = .ok (.putfield 94, 3) := by decide +kernel
theorem dX7_newProof_15 : decode cX7_newProof 15 = .ok (.aload_n 0, 1) := by decide +kernel
theorem dX7_newProof_16 : decode cX7_newProof 16 = .ok (.iconst 0, 1) := by decide +kernel
theorem dX7_newProof_17 : decode cX7_newProof 17 = .ok (.putfield 97, 3) := by decide +kernel
theorem dX7_newProof_20 : decode cX7_newProof 20 = .ok (.aload_n 0, 1) := by decide +kernel
theorem dX7_newProof_21 : decode cX7_newProof 21 = .ok (.iconst (-1), 1) := by decide +kernel
theorem dX7_newProof_22 : decode cX7_newProof 22 = .ok (.putfield 56, 3) := by decide +kernel
theorem dX7_newProof_25 : decode cX7_newProof 25 = .ok (.iload_n 1, 1) := by decide +kernel
theorem dX7_newProof_26 : decode cX7_newProof 26 = .ok (.ireturn, 1) := by decide +kernel
theorem dX7_keepLemma_0 : decode cX7_keepLemma 0 = .ok (.iconst 0, 1) := by decide +kernel
theorem dX7_keepLemma_1 : decode cX7_keepLemma 1 = .ok (.istore_n 1, 1) := by decide +kernel
theorem dX7_keepLemma_2 : decode cX7_keepLemma 2 = .ok (.iconst 0, 1) := by decide +kernel
theorem dX7_keepLemma_3 : decode cX7_keepLemma 3 = .ok (.istore_n 2, 1) := by decide +kernel
theorem dX7_keepLemma_4 : decode cX7_keepLemma 4 = .ok (.iload_n 2, 1) := by decide +kernel
theorem dX7_keepLemma_5 : decode cX7_keepLemma 5 = .ok (.aload_n 0, 1) := by decide +kernel
theorem dX7_keepLemma_6 : decode cX7_keepLemma 6 = .ok (.getfield 94, 3) := by decide +kernel
theorem dX7_keepLemma_9 : decode cX7_keepLemma 9 = .ok (.if_icmp .ge 28, 3) := by decide +kernel
theorem dX7_keepLemma_12 : decode cX7_keepLemma 12 = .ok (.iload_n 1, 1) := by decide +kernel
theorem dX7_keepLemma_13 : decode cX7_keepLemma 13 = .ok (.aload_n 0, 1) := by decide +kernel
theorem dX7_keepLemma_14 : decode cX7_keepLemma 14 = .ok (.getfield 32, 3) := by decide +kernel
theorem dX7_keepLemma_17 : decode cX7_keepLemma 17 = .ok (.iload_n 2, 1) := by decide +kernel
theorem dX7_keepLemma_18 : decode cX7_keepLemma 18 = .ok (.caload, 1) := by decide +kernel
theorem dX7_keepLemma_19 : decode cX7_keepLemma 19 = .ok (.bipush 80, 2) := by decide +kernel
theorem dX7_keepLemma_21 : decode cX7_keepLemma 21 = .ok (.if_icmp .ne 7, 3) := by decide +kernel
theorem dX7_keepLemma_24 : decode cX7_keepLemma 24 = .ok (.iconst 1, 1) := by decide +kernel
theorem dX7_keepLemma_25 : decode cX7_keepLemma 25 = .ok (.goto 4, 3) := by decide +kernel
theorem dX7_keepLemma_28 : decode cX7_keepLemma 28 = .ok (.iconst 0, 1) := by decide +kernel
theorem dX7_keepLemma_29 : decode cX7_keepLemma 29 = .ok (.iadd, 1) := by decide +kernel
theorem dX7_keepLemma_30 : decode cX7_keepLemma 30 = .ok (.istore_n 1, 1) := by decide +kernel
theorem dX7_keepLemma_31 : decode cX7_keepLemma 31 = .ok (.iinc 2 1, 3) := by decide +kernel
theorem dX7_keepLemma_34 : decode cX7_keepLemma 34 = .ok (.goto (-30), 3) := by decide +kernel
theorem dX7_keepLemma_37 : decode cX7_keepLemma 37 = .ok (.aload_n 0, 1) := by decide +kernel
theorem dX7_keepLemma_38 : decode cX7_keepLemma 38 = .ok (.aload_n 0, 1) := by decide +kernel
theorem dX7_keepLemma_39 : decode cX7_keepLemma 39 = .ok (.getfield 94, 3) := by decide +kernel
theorem dX7_keepLemma_42 : decode cX7_keepLemma 42 = .ok (.ifCond .ne 7, 3) := by decide +kernel
theorem dX7_keepLemma_45 : decode cX7_keepLemma 45 = .ok (.iconst 1, 1) := by decide +kernel
theorem dX7_keepLemma_46 : decode cX7_keepLemma 46 = .ok (.goto 41, 3) := by decide +kernel
theorem dX7_keepLemma_49 : decode cX7_keepLemma 49 = .ok (.aload_n 0, 1) := by decide +kernel
theorem dX7_keepLemma_50 : decode cX7_keepLemma 50 = .ok (.getfield 35, 3) := by decide +kernel
theorem dX7_keepLemma_53 : decode cX7_keepLemma 53 = .ok (.aload_n 0, 1) := by decide +kernel
theorem dX7_keepLemma_54 : decode cX7_keepLemma 54 = .ok (.getfield 94, 3) := by decide +kernel
theorem dX7_keepLemma_57 : decode cX7_keepLemma 57 = .ok (.iconst 1, 1) := by decide +kernel
theorem dX7_keepLemma_58 : decode cX7_keepLemma 58 = .ok (.isub, 1) := by decide +kernel
theorem dX7_keepLemma_59 : decode cX7_keepLemma 59 = .ok (.iaload, 1) := by decide +kernel
theorem dX7_keepLemma_60 : decode cX7_keepLemma 60 = .ok (.iconst (-1), 1) := by decide +kernel
theorem dX7_keepLemma_61 : decode cX7_keepLemma 61 = .ok (.if_icmp .ne 8, 3) := by decide +kernel
theorem dX7_keepLemma_64 : decode cX7_keepLemma 64 = .ok (.iload_n 1, 1) := by decide +kernel
theorem dX7_keepLemma_65 : decode cX7_keepLemma 65 = .ok (.iconst 2, 1) := by decide +kernel
theorem dX7_keepLemma_66 : decode cX7_keepLemma 66 = .ok (.if_icmp .le 7, 3) := by decide +kernel
theorem dX7_keepLemma_69 : decode cX7_keepLemma 69 = .ok (.iconst 2, 1) := by decide +kernel
theorem dX7_keepLemma_70 : decode cX7_keepLemma 70 = .ok (.goto 17, 3) := by decide +kernel
theorem dX7_keepLemma_73 : decode cX7_keepLemma 73 = .ok (.aload_n 0, 1) := by decide +kernel
theorem dX7_keepLemma_74 : decode cX7_keepLemma 74 = .ok (.getfield 177, 3) := by decide +kernel
theorem dX7_keepLemma_77 : decode cX7_keepLemma 77 = .ok (.bipush 8, 2) := by decide +kernel
theorem dX7_keepLemma_79 : decode cX7_keepLemma 79 = .ok (.if_icmp .ne 7, 3) := by decide +kernel
theorem dX7_keepLemma_82 : decode cX7_keepLemma 82 = .ok (.iconst 3, 1) := by decide +kernel
theorem dX7_keepLemma_83 : decode cX7_keepLemma 83 = .ok (.goto 4, 3) := by decide +kernel
theorem dX7_keepLemma_86 : decode cX7_keepLemma 86 = .ok (.iconst 0, 1) := by decide +kernel
theorem dX7_keepLemma_87 : decode cX7_keepLemma 87 = .ok (.putfield 84, 3) := by decide +kernel
theorem dX7_keepLemma_90 : decode cX7_keepLemma 90 = .ok (.aload_n 0, 1) := by decide +kernel
theorem dX7_keepLemma_91 : decode cX7_keepLemma 91 = .ok (.getfield 84, 3) := by decide +kernel
theorem dX7_keepLemma_94 : decode cX7_keepLemma 94 = .ok (.ifCond .le 5, 3) := by decide +kernel
theorem dX7_keepLemma_97 : decode cX7_keepLemma 97 = .ok (.iconst 0, 1) := by decide +kernel
theorem dX7_keepLemma_98 : decode cX7_keepLemma 98 = .ok (.ireturn, 1) := by decide +kernel
theorem dX7_keepLemma_99 : decode cX7_keepLemma 99 = .ok (.aload_n 0, 1) := by decide +kernel
theorem dX7_keepLemma_100 : decode cX7_keepLemma 100 = .ok (.getfield 63, 3) := by decide +kernel
theorem dX7_keepLemma_103 : decode cX7_keepLemma 103 = .ok (.aload_n 0, 1) := by decide +kernel
theorem dX7_keepLemma_104 : decode cX7_keepLemma 104 = .ok (.getfield 177, 3) := by decide +kernel
theorem dX7_keepLemma_107 : decode cX7_keepLemma 107 = .ok (.iconst 0, 1) := by decide +kernel
theorem dX7_keepLemma_108 : decode cX7_keepLemma 108 = .ok (.iastore, 1) := by decide +kernel
theorem dX7_keepLemma_109 : decode cX7_keepLemma 109 = .ok (.iconst 0, 1) := by decide +kernel
theorem dX7_keepLemma_110 : decode cX7_keepLemma 110 = .ok (.istore_n 2, 1) := by decide +kernel
theorem dX7_keepLemma_111 : decode cX7_keepLemma 111 = .ok (.iload_n 2, 1) := by decide +kernel
theorem dX7_keepLemma_112 : decode cX7_keepLemma 112 = .ok (.aload_n 0, 1) := by decide +kernel
theorem dX7_keepLemma_113 : decode cX7_keepLemma 113 = .ok (.getfield 94, 3) := by decide +kernel
theorem dX7_keepLemma_116 : decode cX7_keepLemma 116 = .ok (.if_icmp .ge 58, 3) := by decide +kernel
theorem dX7_keepLemma_119 : decode cX7_keepLemma 119 = .ok (.aload_n 0, 1) := by decide +kernel
theorem dX7_keepLemma_120 : decode cX7_keepLemma 120 = .ok (.getfield 32, 3) := by decide +kernel
theorem dX7_keepLemma_123 : decode cX7_keepLemma 123 = .ok (.iload_n 2, 1) := by decide +kernel
theorem dX7_keepLemma_124 : decode cX7_keepLemma 124 = .ok (.caload, 1) := by decide +kernel
theorem dX7_keepLemma_125 : decode cX7_keepLemma 125 = .ok (.bipush 80, 2) := by decide +kernel
theorem dX7_keepLemma_127 : decode cX7_keepLemma 127 = .ok (.if_icmp .ne 41, 3) := by decide +kernel
theorem dX7_keepLemma_130 : decode cX7_keepLemma 130 = .ok (.aload_n 0, 1) := by decide +kernel
theorem dX7_keepLemma_131 : decode cX7_keepLemma 131 = .ok (.getfield 60, 3) := by decide +kernel
theorem dX7_keepLemma_134 : decode cX7_keepLemma 134 = .ok (.aload_n 0, 1) := by decide +kernel
theorem dX7_keepLemma_135 : decode cX7_keepLemma 135 = .ok (.getfield 177, 3) := by decide +kernel
theorem dX7_keepLemma_138 : decode cX7_keepLemma 138 = .ok (.aaload, 1) := by decide +kernel
theorem dX7_keepLemma_139 : decode cX7_keepLemma 139 = .ok (.aload_n 0, 1) := by decide +kernel
theorem dX7_keepLemma_140 : decode cX7_keepLemma 140 = .ok (.getfield 63, 3) := by decide +kernel
theorem dX7_keepLemma_143 : decode cX7_keepLemma 143 = .ok (.aload_n 0, 1) := by decide +kernel
theorem dX7_keepLemma_144 : decode cX7_keepLemma 144 = .ok (.getfield 177, 3) := by decide +kernel
theorem dX7_keepLemma_147 : decode cX7_keepLemma 147 = .ok (.iaload, 1) := by decide +kernel
theorem dX7_keepLemma_148 : decode cX7_keepLemma 148 = .ok (.aload_n 0, 1) := by decide +kernel
theorem dX7_keepLemma_149 : decode cX7_keepLemma 149 = .ok (.getfield 29, 3) := by decide +kernel
theorem dX7_keepLemma_152 : decode cX7_keepLemma 152 = .ok (.iload_n 2, 1) := by decide +kernel
theorem dX7_keepLemma_153 : decode cX7_keepLemma 153 = .ok (.iaload, 1) := by decide +kernel
theorem dX7_keepLemma_154 : decode cX7_keepLemma 154 = .ok (.iastore, 1) := by decide +kernel
theorem dX7_keepLemma_155 : decode cX7_keepLemma 155 = .ok (.aload_n 0, 1) := by decide +kernel
theorem dX7_keepLemma_156 : decode cX7_keepLemma 156 = .ok (.getfield 63, 3) := by decide +kernel
theorem dX7_keepLemma_159 : decode cX7_keepLemma 159 = .ok (.aload_n 0, 1) := by decide +kernel
theorem dX7_keepLemma_160 : decode cX7_keepLemma 160 = .ok (.getfield 177, 3) := by decide +kernel
theorem dX7_keepLemma_163 : decode cX7_keepLemma 163 = .ok (.dup2, 1) := by decide +kernel
theorem dX7_keepLemma_164 : decode cX7_keepLemma 164 = .ok (.iaload, 1) := by decide +kernel
theorem dX7_keepLemma_165 : decode cX7_keepLemma 165 = .ok (.iconst 1, 1) := by decide +kernel
theorem dX7_keepLemma_166 : decode cX7_keepLemma 166 = .ok (.iadd, 1) := by decide +kernel
theorem dX7_keepLemma_167 : decode cX7_keepLemma 167 = .ok (.iastore, 1) := by decide +kernel
theorem dX7_keepLemma_168 : decode cX7_keepLemma 168 = .ok (.iinc 2 1, 3) := by decide +kernel
theorem dX7_keepLemma_171 : decode cX7_keepLemma 171 = .ok (.goto (-60), 3) := by decide +kernel
theorem dX7_keepLemma_174 : decode cX7_keepLemma 174 = .ok (.aload_n 0, 1) := by decide +kernel
theorem dX7_keepLemma_175 : decode cX7_keepLemma 175 = .ok (.getfield 66, 3) := by decide +kernel
theorem dX7_keepLemma_178 : decode cX7_keepLemma 178 = .ok (.aload_n 0, 1) := by decide +kernel
theorem dX7_keepLemma_179 : decode cX7_keepLemma 179 = .ok (.getfield 177, 3) := by decide +kernel
theorem dX7_keepLemma_182 : decode cX7_keepLemma 182 = .ok (.aload_n 0, 1) := by decide +kernel
theorem dX7_keepLemma_183 : decode cX7_keepLemma 183 = .ok (.getfield 29, 3) := by decide +kernel
theorem dX7_keepLemma_186 : decode cX7_keepLemma 186 = .ok (.aload_n 0, 1) := by decide +kernel
theorem dX7_keepLemma_187 : decode cX7_keepLemma 187 = .ok (.getfield 94, 3) := by decide +kernel
theorem dX7_keepLemma_190 : decode cX7_keepLemma 190 = .ok (.iconst 1, 1) := by decide +kernel
theorem dX7_keepLemma_191 : decode cX7_keepLemma 191 = .ok (.isub, 1) := by decide +kernel
theorem dX7_keepLemma_192 : decode cX7_keepLemma 192 = .ok (.iaload, 1) := by decide +kernel
theorem dX7_keepLemma_193 : decode cX7_keepLemma 193 = .ok (.iastore, 1) := by decide +kernel
theorem dX7_keepLemma_194 : decode cX7_keepLemma 194 = .ok (.aload_n 0, 1) := by decide +kernel
theorem dX7_keepLemma_195 : decode cX7_keepLemma 195 = .ok (.dup, 1) := by decide +kernel
theorem dX7_keepLemma_196 : decode cX7_keepLemma 196 = .ok (.getfield 177, 3) := by decide +kernel
theorem dX7_keepLemma_199 : decode cX7_keepLemma 199 = .ok (.iconst 1, 1) := by decide +kernel
theorem dX7_keepLemma_200 : decode cX7_keepLemma 200 = .ok (.iadd, 1) := by decide +kernel
theorem dX7_keepLemma_201 : decode cX7_keepLemma 201 = .ok (.putfield 177, 3) := by decide +kernel
theorem dX7_keepLemma_204 : decode cX7_keepLemma 204 = .ok (.aload_n 0, 1) := by decide +kernel
theorem dX7_keepLemma_205 : decode cX7_keepLemma 205 = .ok (.getfield 177, 3) := by decide +kernel
theorem dX7_keepLemma_208 : decode cX7_keepLemma 208 = .ok (.iconst 1, 1) := by decide +kernel
theorem dX7_keepLemma_209 : decode cX7_keepLemma 209 = .ok (.isub, 1) := by decide +kernel
theorem dX7_keepLemma_210 : decode cX7_keepLemma 210 = .ok (.ireturn, 1) := by decide +kernel
theorem dX7_isLetter_0 : decode cX7_isLetter 0 = .ok (.iload_n 0, 1) := by decide +kernel
theorem dX7_isLetter_1 : decode cX7_isLetter 1 = .ok (.bipush 97, 2) := by decide +kernel
theorem dX7_isLetter_3 : decode cX7_isLetter 3 = .ok (.if_icmp .lt 13, 3) := by decide +kernel
theorem dX7_isLetter_6 : decode cX7_isLetter 6 = .ok (.iload_n 0, 1) := by decide +kernel
theorem dX7_isLetter_7 : decode cX7_isLetter 7 = .ok (.bipush 101, 2) := by decide +kernel
theorem dX7_isLetter_9 : decode cX7_isLetter 9 = .ok (.if_icmp .gt 7, 3) := by decide +kernel
theorem dX7_isLetter_12 : decode cX7_isLetter 12 = .ok (.iconst 1, 1) := by decide +kernel
theorem dX7_isLetter_13 : decode cX7_isLetter 13 = .ok (.goto 4, 3) := by decide +kernel
theorem dX7_isLetter_16 : decode cX7_isLetter 16 = .ok (.iconst 0, 1) := by decide +kernel
theorem dX7_isLetter_17 : decode cX7_isLetter 17 = .ok (.ireturn, 1) := by decide +kernel
theorem dX7_fits_0 : decode cX7_fits 0 = .ok (.aload_n 0, 1) := by decide +kernel
theorem dX7_fits_1 : decode cX7_fits 1 = .ok (.getfield 9, 3) := by decide +kernel
theorem dX7_fits_4 : decode cX7_fits 4 = .ok (.iload_n 1, 1) := by decide +kernel
theorem dX7_fits_5 : decode cX7_fits 5 = .ok (.caload, 1) := by decide +kernel
theorem dX7_fits_6 : decode cX7_fits 6 = .ok (.invokestatic 180, 3) := by decide +kernel
theorem dX7_fits_9 : decode cX7_fits 9 = .ok (.ifCond .eq 55, 3) := by decide +kernel
theorem dX7_fits_12 : decode cX7_fits 12 = .ok (.aload_n 0, 1) := by decide +kernel
theorem dX7_fits_13 : decode cX7_fits 13 = .ok (.getfield 9, 3) := by decide +kernel
theorem dX7_fits_16 : decode cX7_fits 16 = .ok (.iload_n 1, 1) := by decide +kernel
theorem dX7_fits_17 : decode cX7_fits 17 = .ok (.caload, 1) := by decide +kernel
theorem dX7_fits_18 : decode cX7_fits 18 = .ok (.bipush 97, 2) := by decide +kernel
theorem dX7_fits_20 : decode cX7_fits 20 = .ok (.isub, 1) := by decide +kernel
theorem dX7_fits_21 : decode cX7_fits 21 = .ok (.istore_n 3, 1) := by decide +kernel
theorem dX7_fits_22 : decode cX7_fits 22 = .ok (.aload_n 0, 1) := by decide +kernel
theorem dX7_fits_23 : decode cX7_fits 23 = .ok (.getfield 72, 3) := by decide +kernel
theorem dX7_fits_26 : decode cX7_fits 26 = .ok (.iload_n 3, 1) := by decide +kernel
theorem dX7_fits_27 : decode cX7_fits 27 = .ok (.aload_n 0, 1) := by decide +kernel
theorem dX7_fits_28 : decode cX7_fits 28 = .ok (.getfield 72, 3) := by decide +kernel
theorem dX7_fits_31 : decode cX7_fits 31 = .ok (.iload_n 3, 1) := by decide +kernel
theorem dX7_fits_32 : decode cX7_fits 32 = .ok (.iaload, 1) := by decide +kernel
theorem dX7_fits_33 : decode cX7_fits 33 = .ok (.iconst (-1), 1) := by decide +kernel
theorem dX7_fits_34 : decode cX7_fits 34 = .ok (.if_icmp .ne 7, 3) := by decide +kernel
theorem dX7_fits_37 : decode cX7_fits 37 = .ok (.iload_n 2, 1) := by decide +kernel
theorem dX7_fits_38 : decode cX7_fits 38 = .ok (.goto 9, 3) := by decide +kernel
theorem dX7_fits_41 : decode cX7_fits 41 = .ok (.aload_n 0, 1) := by decide +kernel
theorem dX7_fits_42 : decode cX7_fits 42 = .ok (.getfield 72, 3) := by decide +kernel
theorem dX7_fits_45 : decode cX7_fits 45 = .ok (.iload_n 3, 1) := by decide +kernel
theorem dX7_fits_46 : decode cX7_fits 46 = .ok (.iaload, 1) := by decide +kernel
theorem dX7_fits_47 : decode cX7_fits 47 = .ok (.iastore, 1) := by decide +kernel
theorem dX7_fits_48 : decode cX7_fits 48 = .ok (.aload_n 0, 1) := by decide +kernel
theorem dX7_fits_49 : decode cX7_fits 49 = .ok (.getfield 72, 3) := by decide +kernel
theorem dX7_fits_52 : decode cX7_fits 52 = .ok (.iload_n 3, 1) := by decide +kernel
theorem dX7_fits_53 : decode cX7_fits 53 = .ok (.iaload, 1) := by decide +kernel
theorem dX7_fits_54 : decode cX7_fits 54 = .ok (.iload_n 2, 1) := by decide +kernel
theorem dX7_fits_55 : decode cX7_fits 55 = .ok (.if_icmp .ne 7, 3) := by decide +kernel
theorem dX7_fits_58 : decode cX7_fits 58 = .ok (.iconst 1, 1) := by decide +kernel
theorem dX7_fits_59 : decode cX7_fits 59 = .ok (.goto 4, 3) := by decide +kernel
theorem dX7_fits_62 : decode cX7_fits 62 = .ok (.iconst 0, 1) := by decide +kernel
theorem dX7_fits_63 : decode cX7_fits 63 = .ok (.ireturn, 1) := by decide +kernel
theorem dX7_fits_64 : decode cX7_fits 64 = .ok (.aload_n 0, 1) := by decide +kernel
theorem dX7_fits_65 : decode cX7_fits 65 = .ok (.getfield 9, 3) := by decide +kernel
theorem dX7_fits_68 : decode cX7_fits 68 = .ok (.iload_n 1, 1) := by decide +kernel
theorem dX7_fits_69 : decode cX7_fits 69 = .ok (.caload, 1) := by decide +kernel
theorem dX7_fits_70 : decode cX7_fits 70 = .ok (.aload_n 0, 1) := by decide +kernel
theorem dX7_fits_71 : decode cX7_fits 71 = .ok (.getfield 9, 3) := by decide +kernel
theorem dX7_fits_74 : decode cX7_fits 74 = .ok (.iload_n 2, 1) := by decide +kernel
theorem dX7_fits_75 : decode cX7_fits 75 = .ok (.caload, 1) := by decide +kernel
theorem dX7_fits_76 : decode cX7_fits 76 = .ok (.if_icmp .eq 5, 3) := by decide +kernel
theorem dX7_fits_79 : decode cX7_fits 79 = .ok (.iconst 0, 1) := by decide +kernel
theorem dX7_fits_80 : decode cX7_fits 80 = .ok (.ireturn, 1) := by decide +kernel
theorem dX7_fits_81 : decode cX7_fits 81 = .ok (.aload_n 0, 1) := by decide +kernel
theorem dX7_fits_82 : decode cX7_fits 82 = .ok (.getfield 13, 3) := by decide +kernel
theorem dX7_fits_85 : decode cX7_fits 85 = .ok (.iload_n 1, 1) := by decide +kernel
theorem dX7_fits_86 : decode cX7_fits 86 = .ok (.iaload, 1) := by decide +kernel
theorem dX7_fits_87 : decode cX7_fits 87 = .ok (.iconst (-1), 1) := by decide +kernel
theorem dX7_fits_88 : decode cX7_fits 88 = .ok (.if_icmp .eq 22, 3) := by decide +kernel
theorem dX7_fits_91 : decode cX7_fits 91 = .ok (.aload_n 0, 1) := by decide +kernel
theorem dX7_fits_92 : decode cX7_fits 92 = .ok (.aload_n 0, 1) := by decide +kernel
theorem dX7_fits_93 : decode cX7_fits 93 = .ok (.getfield 13, 3) := by decide +kernel
theorem dX7_fits_96 : decode cX7_fits 96 = .ok (.iload_n 1, 1) := by decide +kernel
theorem dX7_fits_97 : decode cX7_fits 97 = .ok (.iaload, 1) := by decide +kernel
theorem dX7_fits_98 : decode cX7_fits 98 = .ok (.aload_n 0, 1) := by decide +kernel
theorem dX7_fits_99 : decode cX7_fits 99 = .ok (.getfield 13, 3) := by decide +kernel
theorem dX7_fits_102 : decode cX7_fits 102 = .ok (.iload_n 2, 1) := by decide +kernel
theorem dX7_fits_103 : decode cX7_fits 103 = .ok (.iaload, 1) := by decide +kernel
theorem dX7_fits_104 : decode cX7_fits 104 = .ok (.invokevirtual 184, 3) := by decide +kernel
theorem dX7_fits_107 : decode cX7_fits 107 = .ok (.ifCond .eq 7, 3) := by decide +kernel
theorem dX7_fits_110 : decode cX7_fits 110 = .ok (.iconst 1, 1) := by decide +kernel
theorem dX7_fits_111 : decode cX7_fits 111 = .ok (.goto 4, 3) := by decide +kernel
theorem dX7_fits_114 : decode cX7_fits 114 = .ok (.iconst 0, 1) := by decide +kernel
theorem dX7_fits_115 : decode cX7_fits 115 = .ok (.istore_n 3, 1) := by decide +kernel
theorem dX7_fits_116 : decode cX7_fits 116 = .ok (.iload_n 3, 1) := by decide +kernel
theorem dX7_fits_117 : decode cX7_fits 117 = .ok (.ifCond .eq 36, 3) := by decide +kernel
theorem dX7_fits_120 : decode cX7_fits 120 = .ok (.aload_n 0, 1) := by decide +kernel
theorem dX7_fits_121 : decode cX7_fits 121 = .ok (.getfield 17, 3) := by decide +kernel
theorem dX7_fits_124 : decode cX7_fits 124 = .ok (.iload_n 1, 1) := by decide +kernel
theorem dX7_fits_125 : decode cX7_fits 125 = .ok (.iaload, 1) := by decide +kernel
theorem dX7_fits_126 : decode cX7_fits 126 = .ok (.iconst (-1), 1) := by decide +kernel
theorem dX7_fits_127 : decode cX7_fits 127 = .ok (.if_icmp .eq 22, 3) := by decide +kernel
theorem dX7_fits_130 : decode cX7_fits 130 = .ok (.aload_n 0, 1) := by decide +kernel
theorem dX7_fits_131 : decode cX7_fits 131 = .ok (.aload_n 0, 1) := by decide +kernel
theorem dX7_fits_132 : decode cX7_fits 132 = .ok (.getfield 17, 3) := by decide +kernel
theorem dX7_fits_135 : decode cX7_fits 135 = .ok (.iload_n 1, 1) := by decide +kernel
theorem dX7_fits_136 : decode cX7_fits 136 = .ok (.iaload, 1) := by decide +kernel
theorem dX7_fits_137 : decode cX7_fits 137 = .ok (.aload_n 0, 1) := by decide +kernel
theorem dX7_fits_138 : decode cX7_fits 138 = .ok (.getfield 17, 3) := by decide +kernel
theorem dX7_fits_141 : decode cX7_fits 141 = .ok (.iload_n 2, 1) := by decide +kernel
theorem dX7_fits_142 : decode cX7_fits 142 = .ok (.iaload, 1) := by decide +kernel
theorem dX7_fits_143 : decode cX7_fits 143 = .ok (.invokevirtual 184, 3) := by decide +kernel
theorem dX7_fits_146 : decode cX7_fits 146 = .ok (.ifCond .eq 7, 3) := by decide +kernel
theorem dX7_fits_149 : decode cX7_fits 149 = .ok (.iconst 1, 1) := by decide +kernel
theorem dX7_fits_150 : decode cX7_fits 150 = .ok (.goto 4, 3) := by decide +kernel
theorem dX7_fits_153 : decode cX7_fits 153 = .ok (.iconst 0, 1) := by decide +kernel
theorem dX7_fits_154 : decode cX7_fits 154 = .ok (.ireturn, 1) := by decide +kernel
theorem dX7_writesInstance_0 : decode cX7_writesInstance 0 = .ok (.aload_n 0, 1) := by decide +kernel
theorem dX7_writesInstance_1 : decode cX7_writesInstance 1 = .ok (.getfield 9, 3) := by decide +kernel
theorem dX7_writesInstance_4 : decode cX7_writesInstance 4 = .ok (.iload_n 1, 1) := by decide +kernel
theorem dX7_writesInstance_5 : decode cX7_writesInstance 5 = .ok (.caload, 1) := by decide +kernel
theorem dX7_writesInstance_6 : decode cX7_writesInstance 6 = .ok (.invokestatic 180, 3) := by decide +kernel
theorem dX7_writesInstance_9 : decode cX7_writesInstance 9 = .ok (.ifCond .eq 57, 3) := by decide +kernel
theorem dX7_writesInstance_12 : decode cX7_writesInstance 12 = .ok (.aload_n 0, 1) := by decide +kernel
theorem dX7_writesInstance_13 : decode cX7_writesInstance 13 = .ok (.getfield 9, 3) := by decide +kernel
theorem dX7_writesInstance_16 : decode cX7_writesInstance 16 = .ok (.iload_n 1, 1) := by decide +kernel
theorem dX7_writesInstance_17 : decode cX7_writesInstance 17 = .ok (.caload, 1) := by decide +kernel
theorem dX7_writesInstance_18 : decode cX7_writesInstance 18 = .ok (.bipush 97, 2) := by decide +kernel
theorem dX7_writesInstance_20 : decode cX7_writesInstance 20 = .ok (.isub, 1) := by decide +kernel
theorem dX7_writesInstance_21 : decode cX7_writesInstance 21 = .ok (.istore_n 2, 1) := by decide +kernel
theorem dX7_writesInstance_22 : decode cX7_writesInstance 22 = .ok (.aload_n 0, 1) := by decide +kernel
theorem dX7_writesInstance_23 : decode cX7_writesInstance 23 = .ok (.aload_n 0, 1) := by decide +kernel
theorem dX7_writesInstance_24 : decode cX7_writesInstance 24 = .ok (.getfield 72, 3) := by decide +kernel
theorem dX7_writesInstance_27 : decode cX7_writesInstance 27 = .ok (.iload_n 2, 1) := by decide +kernel
theorem dX7_writesInstance_28 : decode cX7_writesInstance 28 = .ok (.iaload, 1) := by decide +kernel
theorem dX7_writesInstance_29 : decode cX7_writesInstance 29 = .ok (.iconst (-1), 1) := by decide +kernel
theorem dX7_writesInstance_30 : decode cX7_writesInstance 30 = .ok (.if_icmp .eq 12, 3) := by decide +kernel
theorem dX7_writesInstance_33 : decode cX7_writesInstance 33 = .ok (.aload_n 0, 1) := by decide +kernel
theorem dX7_writesInstance_34 : decode cX7_writesInstance 34 = .ok (.getfield 72, 3) := by decide +kernel
theorem dX7_writesInstance_37 : decode cX7_writesInstance 37 = .ok (.iload_n 2, 1) := by decide +kernel
theorem dX7_writesInstance_38 : decode cX7_writesInstance 38 = .ok (.iaload, 1) := by decide +kernel
theorem dX7_writesInstance_39 : decode cX7_writesInstance 39 = .ok (.goto 23, 3) := by decide +kernel
theorem dX7_writesInstance_42 : decode cX7_writesInstance 42 = .ok (.aload_n 0, 1) := by decide +kernel
theorem dX7_writesInstance_43 : decode cX7_writesInstance 43 = .ok (.getfield 26, 3) := by decide +kernel
theorem dX7_writesInstance_46 : decode cX7_writesInstance 46 = .ok (.iload_n 2, 1) := by decide +kernel
theorem dX7_writesInstance_47 : decode cX7_writesInstance 47 = .ok (.iaload, 1) := by decide +kernel
theorem dX7_writesInstance_48 : decode cX7_writesInstance 48 = .ok (.iconst (-1), 1) := by decide +kernel
theorem dX7_writesInstance_49 : decode cX7_writesInstance 49 = .ok (.if_icmp .eq 12, 3) := by decide +kernel
theorem dX7_writesInstance_52 : decode cX7_writesInstance 52 = .ok (.aload_n 0, 1) := by decide +kernel
theorem dX7_writesInstance_53 : decode cX7_writesInstance 53 = .ok (.getfield 26, 3) := by decide +kernel
theorem dX7_writesInstance_56 : decode cX7_writesInstance 56 = .ok (.iload_n 2, 1) := by decide +kernel
theorem dX7_writesInstance_57 : decode cX7_writesInstance 57 = .ok (.iaload, 1) := by decide +kernel
theorem dX7_writesInstance_58 : decode cX7_writesInstance 58 = .ok (.goto 4, 3) := by decide +kernel
theorem dX7_writesInstance_61 : decode cX7_writesInstance 61 = .ok (.iload_n 1, 1) := by decide +kernel
theorem dX7_writesInstance_62 : decode cX7_writesInstance 62 = .ok (.invokevirtual 117, 3) := by decide +kernel
theorem dX7_writesInstance_65 : decode cX7_writesInstance 65 = .ok (.return_, 1) := by decide +kernel
theorem dX7_writesInstance_66 : decode cX7_writesInstance 66 = .ok (.aload_n 0, 1) := by decide +kernel
theorem dX7_writesInstance_67 : decode cX7_writesInstance 67 = .ok (.getfield 69, 3) := by decide +kernel
theorem dX7_writesInstance_70 : decode cX7_writesInstance 70 = .ok (.aload_n 0, 1) := by decide +kernel
theorem dX7_writesInstance_71 : decode cX7_writesInstance 71 = .ok (.getfield 114, 3) := by decide +kernel
theorem dX7_writesInstance_74 : decode cX7_writesInstance 74 = .ok (.aload_n 0, 1) := by decide +kernel
theorem dX7_writesInstance_75 : decode cX7_writesInstance 75 = .ok (.getfield 9, 3) := by decide +kernel
theorem dX7_writesInstance_78 : decode cX7_writesInstance 78 = .ok (.iload_n 1, 1) := by decide +kernel
theorem dX7_writesInstance_79 : decode cX7_writesInstance 79 = .ok (.caload, 1) := by decide +kernel
theorem dX7_writesInstance_80 : decode cX7_writesInstance 80 = .ok (.castore, 1) := by decide +kernel
theorem dX7_writesInstance_81 : decode cX7_writesInstance 81 = .ok (.aload_n 0, 1) := by decide +kernel
theorem dX7_writesInstance_82 : decode cX7_writesInstance 82 = .ok (.dup, 1) := by decide +kernel
theorem dX7_writesInstance_83 : decode cX7_writesInstance 83 = .ok (.getfield 114, 3) := by decide +kernel
theorem dX7_writesInstance_86 : decode cX7_writesInstance 86 = .ok (.iconst 1, 1) := by decide +kernel
theorem dX7_writesInstance_87 : decode cX7_writesInstance 87 = .ok (.iadd, 1) := by decide +kernel
theorem dX7_writesInstance_88 : decode cX7_writesInstance 88 = .ok (.putfield 114, 3) := by decide +kernel
theorem dX7_writesInstance_91 : decode cX7_writesInstance 91 = .ok (.aload_n 0, 1) := by decide +kernel
theorem dX7_writesInstance_92 : decode cX7_writesInstance 92 = .ok (.getfield 13, 3) := by decide +kernel
theorem dX7_writesInstance_95 : decode cX7_writesInstance 95 = .ok (.iload_n 1, 1) := by decide +kernel
theorem dX7_writesInstance_96 : decode cX7_writesInstance 96 = .ok (.iaload, 1) := by decide +kernel
theorem dX7_writesInstance_97 : decode cX7_writesInstance 97 = .ok (.iconst (-1), 1) := by decide +kernel
theorem dX7_writesInstance_98 : decode cX7_writesInstance 98 = .ok (.if_icmp .eq 13, 3) := by decide +kernel
theorem dX7_writesInstance_101 : decode cX7_writesInstance 101 = .ok (.aload_n 0, 1) := by decide +kernel
theorem dX7_writesInstance_102 : decode cX7_writesInstance 102 = .ok (.aload_n 0, 1) := by decide +kernel
theorem dX7_writesInstance_103 : decode cX7_writesInstance 103 = .ok (.getfield 13, 3) := by decide +kernel
theorem dX7_writesInstance_106 : decode cX7_writesInstance 106 = .ok (.iload_n 1, 1) := by decide +kernel
theorem dX7_writesInstance_107 : decode cX7_writesInstance 107 = .ok (.iaload, 1) := by decide +kernel
theorem dX7_writesInstance_108 : decode cX7_writesInstance 108 = .ok (.invokevirtual 187, 3) := by decide +kernel
theorem dX7_writesInstance_111 : decode cX7_writesInstance 111 = .ok (.aload_n 0, 1) := by decide +kernel
theorem dX7_writesInstance_112 : decode cX7_writesInstance 112 = .ok (.getfield 17, 3) := by decide +kernel
theorem dX7_writesInstance_115 : decode cX7_writesInstance 115 = .ok (.iload_n 1, 1) := by decide +kernel
theorem dX7_writesInstance_116 : decode cX7_writesInstance 116 = .ok (.iaload, 1) := by decide +kernel
theorem dX7_writesInstance_117 : decode cX7_writesInstance 117 = .ok (.iconst (-1), 1) := by decide +kernel
theorem dX7_writesInstance_118 : decode cX7_writesInstance 118 = .ok (.if_icmp .eq 13, 3) := by decide +kernel
theorem dX7_writesInstance_121 : decode cX7_writesInstance 121 = .ok (.aload_n 0, 1) := by decide +kernel
theorem dX7_writesInstance_122 : decode cX7_writesInstance 122 = .ok (.aload_n 0, 1) := by decide +kernel
theorem dX7_writesInstance_123 : decode cX7_writesInstance 123 = .ok (.getfield 17, 3) := by decide +kernel
theorem dX7_writesInstance_126 : decode cX7_writesInstance 126 = .ok (.iload_n 1, 1) := by decide +kernel
theorem dX7_writesInstance_127 : decode cX7_writesInstance 127 = .ok (.iaload, 1) := by decide +kernel
theorem dX7_writesInstance_128 : decode cX7_writesInstance 128 = .ok (.invokevirtual 187, 3) := by decide +kernel
theorem dX7_writesInstance_131 : decode cX7_writesInstance 131 = .ok (.return_, 1) := by decide +kernel
theorem dX7_useLemma_0 : decode cX7_useLemma 0 = .ok (.iload_n 1, 1) := by decide +kernel
theorem dX7_useLemma_1 : decode cX7_useLemma 1 = .ok (.iconst 0, 1) := by decide +kernel
theorem dX7_useLemma_2 : decode cX7_useLemma 2 = .ok (.aload_n 0, 1) := by decide +kernel
theorem dX7_useLemma_3 : decode cX7_useLemma 3 = .ok (.getfield 177, 3) := by decide +kernel
theorem dX7_useLemma_6 : decode cX7_useLemma 6 = .ok (.iconst 1, 1) := by decide +kernel
theorem dX7_useLemma_7 : decode cX7_useLemma 7 = .ok (.isub, 1) := by decide +kernel
theorem dX7_useLemma_8 : decode cX7_useLemma 8 = .ok (.invokestatic 90, 3) := by decide +kernel
theorem dX7_useLemma_11 : decode cX7_useLemma 11 = .ok (.ifCond .eq 12, 3) := by decide +kernel
theorem dX7_useLemma_14 : decode cX7_useLemma 14 = .ok (.aload_n 0, 1) := by decide +kernel
theorem dX7_useLemma_15 : decode cX7_useLemma 15 = .ok (.getfield 63, 3) := by decide +kernel
theorem dX7_useLemma_18 : decode cX7_useLemma 18 = .ok (.iload_n 1, 1) := by decide +kernel
theorem dX7_useLemma_19 : decode cX7_useLemma 19 = .ok (.iaload, 1) := by decide +kernel
theorem dX7_useLemma_20 : decode cX7_useLemma 20 = .ok (.goto 4, 3) := by decide +kernel
theorem dX7_useLemma_23 : decode cX7_useLemma 23 = .ok (.iconst (-1), 1) := by decide +kernel
theorem dX7_useLemma_24 : decode cX7_useLemma 24 = .ok (.istore 4, 2) := by decide +kernel
theorem dX7_useLemma_26 : decode cX7_useLemma 26 = .ok (.iload 4, 2) := by decide +kernel
theorem dX7_useLemma_28 : decode cX7_useLemma 28 = .ok (.iconst (-1), 1) := by decide +kernel
theorem dX7_useLemma_29 : decode cX7_useLemma 29 = .ok (.if_icmp .eq 30, 3) := by decide +kernel
theorem dX7_useLemma_32 : decode cX7_useLemma 32 = .ok (.iload 4, 2) := by decide +kernel
theorem dX7_useLemma_34 : decode cX7_useLemma 34 = .ok (.ifCond .le 11, 3) := by decide +kernel
theorem dX7_useLemma_37 : decode cX7_useLemma 37 = .ok (.aload_n 0, 1) := by decide +kernel
theorem dX7_useLemma_38 : decode cX7_useLemma 38 = .ok (.iload_n 2, 1) := by decide +kernel
theorem dX7_useLemma_39 : decode cX7_useLemma 39 = .ok (.invokevirtual 149, 3) := by decide +kernel
theorem dX7_useLemma_42 : decode cX7_useLemma 42 = .ok (.ifCond .eq 17, 3) := by decide +kernel
theorem dX7_useLemma_45 : decode cX7_useLemma 45 = .ok (.iload 4, 2) := by decide +kernel
theorem dX7_useLemma_47 : decode cX7_useLemma 47 = .ok (.iconst 1, 1) := by decide +kernel
theorem dX7_useLemma_48 : decode cX7_useLemma 48 = .ok (.if_icmp .le 17, 3) := by decide +kernel
theorem dX7_useLemma_51 : decode cX7_useLemma 51 = .ok (.aload_n 0, 1) := by decide +kernel
theorem dX7_useLemma_52 : decode cX7_useLemma 52 = .ok (.iload_n 3, 1) := by decide +kernel
theorem dX7_useLemma_53 : decode cX7_useLemma 53 = .ok (.invokevirtual 149, 3) := by decide +kernel
theorem dX7_useLemma_56 : decode cX7_useLemma 56 = .ok (.ifCond .ne 9, 3) := by decide +kernel
theorem dX7_useLemma_59 : decode cX7_useLemma 59 = .ok (.aload_n 0, 1) := by decide +kernel
theorem dX7_useLemma_60 : decode cX7_useLemma 60 = .ok (.iconst 1, 1) := by decide +kernel
theorem dX7_useLemma_61 : decode cX7_useLemma 61 = .ok (.invokevirtual 132, 3) := by decide +kernel
theorem dX7_useLemma_64 : decode cX7_useLemma 64 = .ok (.ireturn, 1) := by decide +kernel
theorem dX7_useLemma_65 : decode cX7_useLemma 65 = .ok (.iload 4, 2) := by decide +kernel
theorem dX7_useLemma_67 : decode cX7_useLemma 67 = .ok (.ifCond .le 11, 3) := by decide +kernel
theorem dX7_useLemma_70 : decode cX7_useLemma 70 = .ok (.aload_n 0, 1) := by decide +kernel
theorem dX7_useLemma_71 : decode cX7_useLemma 71 = .ok (.iload_n 2, 1) := by decide +kernel
theorem dX7_useLemma_72 : decode cX7_useLemma 72 = .ok (.invokevirtual 152, 3) := by decide +kernel
theorem dX7_useLemma_75 : decode cX7_useLemma 75 = .ok (.ifCond .eq 17, 3) := by decide +kernel
theorem dX7_useLemma_78 : decode cX7_useLemma 78 = .ok (.iload 4, 2) := by decide +kernel
theorem dX7_useLemma_80 : decode cX7_useLemma 80 = .ok (.iconst 1, 1) := by decide +kernel
theorem dX7_useLemma_81 : decode cX7_useLemma 81 = .ok (.if_icmp .le 17, 3) := by decide +kernel
theorem dX7_useLemma_84 : decode cX7_useLemma 84 = .ok (.aload_n 0, 1) := by decide +kernel
theorem dX7_useLemma_85 : decode cX7_useLemma 85 = .ok (.iload_n 3, 1) := by decide +kernel
theorem dX7_useLemma_86 : decode cX7_useLemma 86 = .ok (.invokevirtual 152, 3) := by decide +kernel
theorem dX7_useLemma_89 : decode cX7_useLemma 89 = .ok (.ifCond .ne 9, 3) := by decide +kernel
theorem dX7_useLemma_92 : decode cX7_useLemma 92 = .ok (.aload_n 0, 1) := by decide +kernel
theorem dX7_useLemma_93 : decode cX7_useLemma 93 = .ok (.iconst 2, 1) := by decide +kernel
theorem dX7_useLemma_94 : decode cX7_useLemma 94 = .ok (.invokevirtual 132, 3) := by decide +kernel
theorem dX7_useLemma_97 : decode cX7_useLemma 97 = .ok (.ireturn, 1) := by decide +kernel
theorem dX7_useLemma_98 : decode cX7_useLemma 98 = .ok (.iconst 0, 1) := by decide +kernel
theorem dX7_useLemma_99 : decode cX7_useLemma 99 = .ok (.istore 5, 2) := by decide +kernel
theorem dX7_useLemma_101 : decode cX7_useLemma 101 = .ok (.iload 5, 2) := by decide +kernel
theorem dX7_useLemma_103 : decode cX7_useLemma 103 = .ok (.iconst 5, 1) := by decide +kernel
theorem dX7_useLemma_104 : decode cX7_useLemma 104 = .ok (.if_icmp .ge 17, 3) := by decide +kernel
theorem dX7_useLemma_107 : decode cX7_useLemma 107 = .ok (.aload_n 0, 1) := by decide +kernel
theorem dX7_useLemma_108 : decode cX7_useLemma 108 = .ok (.getfield 72, 3) := by decide +kernel
theorem dX7_useLemma_111 : decode cX7_useLemma 111 = .ok (.iload 5, 2) := by decide +kernel
theorem dX7_useLemma_113 : decode cX7_useLemma 113 = .ok (.iconst (-1), 1) := by decide +kernel
theorem dX7_useLemma_114 : decode cX7_useLemma 114 = .ok (.iastore, 1) := by decide +kernel
theorem dX7_useLemma_115 : decode cX7_useLemma 115 = .ok (.iinc 5 1, 3) := by decide +kernel
theorem dX7_useLemma_118 : decode cX7_useLemma 118 = .ok (.goto (-17), 3) := by decide +kernel
theorem dX7_useLemma_121 : decode cX7_useLemma 121 = .ok (.iload 4, 2) := by decide +kernel
theorem dX7_useLemma_123 : decode cX7_useLemma 123 = .ok (.ifCond .le 24, 3) := by decide +kernel
theorem dX7_useLemma_126 : decode cX7_useLemma 126 = .ok (.aload_n 0, 1) := by decide +kernel
theorem dX7_useLemma_127 : decode cX7_useLemma 127 = .ok (.aload_n 0, 1) := by decide +kernel
theorem dX7_useLemma_128 : decode cX7_useLemma 128 = .ok (.getfield 60, 3) := by decide +kernel
theorem dX7_useLemma_131 : decode cX7_useLemma 131 = .ok (.iload_n 1, 1) := by decide +kernel
theorem dX7_useLemma_132 : decode cX7_useLemma 132 = .ok (.aaload, 1) := by decide +kernel
theorem dX7_useLemma_133 : decode cX7_useLemma 133 = .ok (.iconst 0, 1) := by decide +kernel
theorem dX7_useLemma_134 : decode cX7_useLemma 134 = .ok (.iaload, 1) := by decide +kernel
theorem dX7_useLemma_135 : decode cX7_useLemma 135 = .ok (.aload_n 0, 1) := by decide +kernel
theorem dX7_useLemma_136 : decode cX7_useLemma 136 = .ok (.getfield 29, 3) := by decide +kernel
theorem dX7_useLemma_139 : decode cX7_useLemma 139 = .ok (.iload_n 2, 1) := by decide +kernel
theorem dX7_useLemma_140 : decode cX7_useLemma 140 = .ok (.iaload, 1) := by decide +kernel
theorem dX7_useLemma_141 : decode cX7_useLemma 141 = .ok (.invokevirtual 184, 3) := by decide +kernel
theorem dX7_useLemma_144 : decode cX7_useLemma 144 = .ok (.ifCond .eq 30, 3) := by decide +kernel
theorem dX7_useLemma_147 : decode cX7_useLemma 147 = .ok (.iload 4, 2) := by decide +kernel
theorem dX7_useLemma_149 : decode cX7_useLemma 149 = .ok (.iconst 1, 1) := by decide +kernel
theorem dX7_useLemma_150 : decode cX7_useLemma 150 = .ok (.if_icmp .le 30, 3) := by decide +kernel
theorem dX7_useLemma_153 : decode cX7_useLemma 153 = .ok (.aload_n 0, 1) := by decide +kernel
theorem dX7_useLemma_154 : decode cX7_useLemma 154 = .ok (.aload_n 0, 1) := by decide +kernel
theorem dX7_useLemma_155 : decode cX7_useLemma 155 = .ok (.getfield 60, 3) := by decide +kernel
theorem dX7_useLemma_158 : decode cX7_useLemma 158 = .ok (.iload_n 1, 1) := by decide +kernel
theorem dX7_useLemma_159 : decode cX7_useLemma 159 = .ok (.aaload, 1) := by decide +kernel
theorem dX7_useLemma_160 : decode cX7_useLemma 160 = .ok (.iconst 1, 1) := by decide +kernel
theorem dX7_useLemma_161 : decode cX7_useLemma 161 = .ok (.iaload, 1) := by decide +kernel
theorem dX7_useLemma_162 : decode cX7_useLemma 162 = .ok (.aload_n 0, 1) := by decide +kernel
theorem dX7_useLemma_163 : decode cX7_useLemma 163 = .ok (.getfield 29, 3) := by decide +kernel
theorem dX7_useLemma_166 : decode cX7_useLemma 166 = .ok (.iload_n 3, 1) := by decide +kernel
theorem dX7_useLemma_167 : decode cX7_useLemma 167 = .ok (.iaload, 1) := by decide +kernel
theorem dX7_useLemma_168 : decode cX7_useLemma 168 = .ok (.invokevirtual 184, 3) := by decide +kernel
theorem dX7_useLemma_171 : decode cX7_useLemma 171 = .ok (.ifCond .ne 9, 3) := by decide +kernel
theorem dX7_useLemma_174 : decode cX7_useLemma 174 = .ok (.aload_n 0, 1) := by decide +kernel
theorem dX7_useLemma_175 : decode cX7_useLemma 175 = .ok (.iconst 3, 1) := by decide +kernel
theorem dX7_useLemma_176 : decode cX7_useLemma 176 = .ok (.invokevirtual 132, 3) := by decide +kernel
theorem dX7_useLemma_179 : decode cX7_useLemma 179 = .ok (.ireturn, 1) := by decide +kernel
theorem dX7_useLemma_180 : decode cX7_useLemma 180 = .ok (.aload_n 0, 1) := by decide +kernel
theorem dX7_useLemma_181 : decode cX7_useLemma 181 = .ok (.getfield 94, 3) := by decide +kernel
theorem dX7_useLemma_184 : decode cX7_useLemma 184 = .ok (.bipush 60, 2) := by decide +kernel
theorem dX7_useLemma_186 : decode cX7_useLemma 186 = .ok (.if_icmp .ne 9, 3) := by decide +kernel
theorem dX7_useLemma_189 : decode cX7_useLemma 189 = .ok (.aload_n 0, 1) := by decide +kernel
theorem dX7_useLemma_190 : decode cX7_useLemma 190 = .ok (.iconst 4, 1) := by decide +kernel
theorem dX7_useLemma_191 : decode cX7_useLemma 191 = .ok (.invokevirtual 132, 3) := by decide +kernel
theorem dX7_useLemma_194 : decode cX7_useLemma 194 = .ok (.ireturn, 1) := by decide +kernel
theorem dX7_useLemma_195 : decode cX7_useLemma 195 = .ok (.aload_n 0, 1) := by decide +kernel
theorem dX7_useLemma_196 : decode cX7_useLemma 196 = .ok (.iconst 0, 1) := by decide +kernel
theorem dX7_useLemma_197 : decode cX7_useLemma 197 = .ok (.putfield 114, 3) := by decide +kernel
theorem dX7_useLemma_200 : decode cX7_useLemma 200 = .ok (.aload_n 0, 1) := by decide +kernel
theorem dX7_useLemma_201 : decode cX7_useLemma 201 = .ok (.aload_n 0, 1) := by decide +kernel
theorem dX7_useLemma_202 : decode cX7_useLemma 202 = .ok (.getfield 66, 3) := by decide +kernel
theorem dX7_useLemma_205 : decode cX7_useLemma 205 = .ok (.iload_n 1, 1) := by decide +kernel
theorem dX7_useLemma_206 : decode cX7_useLemma 206 = .ok (.iaload, 1) := by decide +kernel
theorem dX7_useLemma_207 : decode cX7_useLemma 207 = .ok (.invokevirtual 187, 3) := by decide +kernel
theorem dX7_useLemma_210 : decode cX7_useLemma 210 = .ok (.aload_n 0, 1) := by decide +kernel
theorem dX7_useLemma_211 : decode cX7_useLemma 211 = .ok (.invokevirtual 190, 3) := by decide +kernel
theorem dX7_useLemma_214 : decode cX7_useLemma 214 = .ok (.istore 5, 2) := by decide +kernel
theorem dX7_useLemma_216 : decode cX7_useLemma 216 = .ok (.iload 5, 2) := by decide +kernel
theorem dX7_useLemma_218 : decode cX7_useLemma 218 = .ok (.iconst (-1), 1) := by decide +kernel
theorem dX7_useLemma_219 : decode cX7_useLemma 219 = .ok (.if_icmp .ne 11, 3) := by decide +kernel
theorem dX7_useLemma_222 : decode cX7_useLemma 222 = .ok (.aload_n 0, 1) := by decide +kernel
theorem dX7_useLemma_223 : decode cX7_useLemma 223 = .ok (.iconst 4, 1) := by decide +kernel
theorem dX7_useLemma_224 : decode cX7_useLemma 224 = .ok (.invokevirtual 132, 3) := by decide +kernel
theorem dX7_useLemma_227 : decode cX7_useLemma 227 = .ok (.goto 34, 3) := by decide +kernel
theorem dX7_useLemma_230 : decode cX7_useLemma 230 = .ok (.aload_n 0, 1) := by decide +kernel
theorem dX7_useLemma_231 : decode cX7_useLemma 231 = .ok (.iload 5, 2) := by decide +kernel
theorem dX7_useLemma_233 : decode cX7_useLemma 233 = .ok (.bipush 76, 2) := by decide +kernel
theorem dX7_useLemma_235 : decode cX7_useLemma 235 = .ok (.iload 4, 2) := by decide +kernel
theorem dX7_useLemma_237 : decode cX7_useLemma 237 = .ok (.ifCond .le 7, 3) := by decide +kernel
theorem dX7_useLemma_240 : decode cX7_useLemma 240 = .ok (.iload_n 2, 1) := by decide +kernel
theorem dX7_useLemma_241 : decode cX7_useLemma 241 = .ok (.goto 4, 3) := by decide +kernel
theorem dX7_useLemma_244 : decode cX7_useLemma 244 = .ok (.iconst (-1), 1) := by decide +kernel
theorem dX7_useLemma_245 : decode cX7_useLemma 245 = .ok (.iload 4, 2) := by decide +kernel
theorem dX7_useLemma_247 : decode cX7_useLemma 247 = .ok (.iconst 1, 1) := by decide +kernel
theorem dX7_useLemma_248 : decode cX7_useLemma 248 = .ok (.if_icmp .le 7, 3) := by decide +kernel
theorem dX7_useLemma_251 : decode cX7_useLemma 251 = .ok (.iload_n 3, 1) := by decide +kernel
theorem dX7_useLemma_252 : decode cX7_useLemma 252 = .ok (.goto 4, 3) := by decide +kernel
theorem dX7_useLemma_255 : decode cX7_useLemma 255 = .ok (.iconst (-1), 1) := by decide +kernel
theorem dX7_useLemma_256 : decode cX7_useLemma 256 = .ok (.iconst (-1), 1) := by decide +kernel
theorem dX7_useLemma_257 : decode cX7_useLemma 257 = .ok (.iconst (-1), 1) := by decide +kernel
theorem dX7_useLemma_258 : decode cX7_useLemma 258 = .ok (.invokevirtual 145, 3) := by decide +kernel
theorem dX7_useLemma_261 : decode cX7_useLemma 261 = .ok (.ireturn, 1) := by decide +kernel
theorem dX7_lemmas_0 : decode cX7_lemmas 0 = .ok (.aload_n 0, 1) := by decide +kernel
theorem dX7_lemmas_1 : decode cX7_lemmas 1 = .ok (.iconst 0, 1) := by decide +kernel
theorem dX7_lemmas_2 : decode cX7_lemmas 2 = .ok (.putfield 84, 3) := by decide +kernel
theorem dX7_lemmas_5 : decode cX7_lemmas 5 = .ok (.aload_n 0, 1) := by decide +kernel
theorem dX7_lemmas_6 : decode cX7_lemmas 6 = .ok (.getfield 177, 3) := by decide +kernel
theorem dX7_lemmas_9 : decode cX7_lemmas 9 = .ok (.ireturn, 1) := by decide +kernel
theorem dX7_conclusionOf_0 : decode cX7_conclusionOf 0 = .ok (.aload_n 0, 1) := by decide +kernel
theorem dX7_conclusionOf_1 : decode cX7_conclusionOf 1 = .ok (.iload_n 1, 1) := by decide +kernel
theorem dX7_conclusionOf_2 : decode cX7_conclusionOf 2 = .ok (.iconst 0, 1) := by decide +kernel
theorem dX7_conclusionOf_3 : decode cX7_conclusionOf 3 = .ok (.aload_n 0, 1) := by decide +kernel
theorem dX7_conclusionOf_4 : decode cX7_conclusionOf 4 = .ok (.getfield 177, 3) := by decide +kernel
theorem dX7_conclusionOf_7 : decode cX7_conclusionOf 7 = .ok (.iconst 1, 1) := by decide +kernel
theorem dX7_conclusionOf_8 : decode cX7_conclusionOf 8 = .ok (.isub, 1) := by decide +kernel
theorem dX7_conclusionOf_9 : decode cX7_conclusionOf 9 = .ok (.invokestatic 90, 3) := by decide +kernel
theorem dX7_conclusionOf_12 : decode cX7_conclusionOf 12 = .ok (.ifCond .eq 7, 3) := by decide +kernel
theorem dX7_conclusionOf_15 : decode cX7_conclusionOf 15 = .ok (.iconst 0, 1) := by decide +kernel
theorem dX7_conclusionOf_16 : decode cX7_conclusionOf 16 = .ok (.goto 4, 3) := by decide +kernel
theorem dX7_conclusionOf_19 : decode cX7_conclusionOf 19 = .ok (.iconst 1, 1) := by decide +kernel
theorem dX7_conclusionOf_20 : decode cX7_conclusionOf 20 = .ok (.putfield 84, 3) := by decide +kernel
theorem dX7_conclusionOf_23 : decode cX7_conclusionOf 23 = .ok (.aload_n 0, 1) := by decide +kernel
theorem dX7_conclusionOf_24 : decode cX7_conclusionOf 24 = .ok (.getfield 84, 3) := by decide +kernel
theorem dX7_conclusionOf_27 : decode cX7_conclusionOf 27 = .ok (.ifCond .le 7, 3) := by decide +kernel
theorem dX7_conclusionOf_30 : decode cX7_conclusionOf 30 = .ok (.iconst 0, 1) := by decide +kernel
theorem dX7_conclusionOf_31 : decode cX7_conclusionOf 31 = .ok (.goto 9, 3) := by decide +kernel
theorem dX7_conclusionOf_34 : decode cX7_conclusionOf 34 = .ok (.aload_n 0, 1) := by decide +kernel
theorem dX7_conclusionOf_35 : decode cX7_conclusionOf 35 = .ok (.getfield 66, 3) := by decide +kernel
theorem dX7_conclusionOf_38 : decode cX7_conclusionOf 38 = .ok (.iload_n 1, 1) := by decide +kernel
theorem dX7_conclusionOf_39 : decode cX7_conclusionOf 39 = .ok (.iaload, 1) := by decide +kernel
theorem dX7_conclusionOf_40 : decode cX7_conclusionOf 40 = .ok (.ireturn, 1) := by decide +kernel
theorem dX7_lines_0 : decode cX7_lines 0 = .ok (.aload_n 0, 1) := by decide +kernel
theorem dX7_lines_1 : decode cX7_lines 1 = .ok (.iconst 0, 1) := by decide +kernel
theorem dX7_lines_2 : decode cX7_lines 2 = .ok (.putfield 84, 3) := by decide +kernel
theorem dX7_lines_5 : decode cX7_lines 5 = .ok (.aload_n 0, 1) := by decide +kernel
theorem dX7_lines_6 : decode cX7_lines 6 = .ok (.getfield 94, 3) := by decide +kernel
theorem dX7_lines_9 : decode cX7_lines 9 = .ok (.ireturn, 1) := by decide +kernel
theorem dX7_lacksLine_0 : decode cX7_lacksLine 0 = .ok (.aload_n 0, 1) := by decide +kernel
theorem dX7_lacksLine_1 : decode cX7_lacksLine 1 = .ok (.aload_n 0, 1) := by decide +kernel
theorem dX7_lacksLine_2 : decode cX7_lacksLine 2 = .ok (.iload_n 1, 1) := by decide +kernel
theorem dX7_lacksLine_3 : decode cX7_lacksLine 3 = .ok (.invokevirtual 149, 3) := by decide +kernel
theorem dX7_lacksLine_6 : decode cX7_lacksLine 6 = .ok (.ifCond .eq 7, 3) := by decide +kernel
theorem dX7_lacksLine_9 : decode cX7_lacksLine 9 = .ok (.iconst 0, 1) := by decide +kernel
theorem dX7_lacksLine_10 : decode cX7_lacksLine 10 = .ok (.goto 4, 3) := by decide +kernel
theorem dX7_lacksLine_13 : decode cX7_lacksLine 13 = .ok (.iconst 1, 1) := by decide +kernel
theorem dX7_lacksLine_14 : decode cX7_lacksLine 14 = .ok (.putfield 84, 3) := by decide +kernel
theorem dX7_lacksLine_17 : decode cX7_lacksLine 17 = .ok (.aload_n 0, 1) := by decide +kernel
theorem dX7_lacksLine_18 : decode cX7_lacksLine 18 = .ok (.getfield 84, 3) := by decide +kernel
theorem dX7_lacksLine_21 : decode cX7_lacksLine 21 = .ok (.ifCond .le 7, 3) := by decide +kernel
theorem dX7_lacksLine_24 : decode cX7_lacksLine 24 = .ok (.iconst 1, 1) := by decide +kernel
theorem dX7_lacksLine_25 : decode cX7_lacksLine 25 = .ok (.goto 4, 3) := by decide +kernel
theorem dX7_lacksLine_28 : decode cX7_lacksLine 28 = .ok (.iconst 0, 1) := by decide +kernel
theorem dX7_lacksLine_29 : decode cX7_lacksLine 29 = .ok (.ireturn, 1) := by decide +kernel
theorem dX7_formulaOf_0 : decode cX7_formulaOf 0 = .ok (.aload_n 0, 1) := by decide +kernel
theorem dX7_formulaOf_1 : decode cX7_formulaOf 1 = .ok (.iload_n 1, 1) := by decide +kernel
theorem dX7_formulaOf_2 : decode cX7_formulaOf 2 = .ok (.invokevirtual 193, 3) := by decide +kernel
theorem dX7_formulaOf_5 : decode cX7_formulaOf 5 = .ok (.ifCond .eq 7, 3) := by decide +kernel
theorem dX7_formulaOf_8 : decode cX7_formulaOf 8 = .ok (.iconst 0, 1) := by decide +kernel
theorem dX7_formulaOf_9 : decode cX7_formulaOf 9 = .ok (.goto 9, 3) := by decide +kernel
theorem dX7_formulaOf_12 : decode cX7_formulaOf 12 = .ok (.aload_n 0, 1) := by decide +kernel
theorem dX7_formulaOf_13 : decode cX7_formulaOf 13 = .ok (.getfield 29, 3) := by decide +kernel
theorem dX7_formulaOf_16 : decode cX7_formulaOf 16 = .ok (.iload_n 1, 1) := by decide +kernel
theorem dX7_formulaOf_17 : decode cX7_formulaOf 17 = .ok (.iaload, 1) := by decide +kernel
theorem dX7_formulaOf_18 : decode cX7_formulaOf 18 = .ok (.ireturn, 1) := by decide +kernel
theorem dX7_ruleOf_0 : decode cX7_ruleOf 0 = .ok (.aload_n 0, 1) := by decide +kernel
theorem dX7_ruleOf_1 : decode cX7_ruleOf 1 = .ok (.iload_n 1, 1) := by decide +kernel
theorem dX7_ruleOf_2 : decode cX7_ruleOf 2 = .ok (.invokevirtual 193, 3) := by decide +kernel
theorem dX7_ruleOf_5 : decode cX7_ruleOf 5 = .ok (.ifCond .eq 8, 3) := by decide +kernel
theorem dX7_ruleOf_8 : decode cX7_ruleOf 8 = .ok (.bipush 32, 2) := by decide +kernel
theorem dX7_ruleOf_10 : decode cX7_ruleOf 10 = .ok (.goto 9, 3) := by decide +kernel
theorem dX7_ruleOf_13 : decode cX7_ruleOf 13 = .ok (.aload_n 0, 1) := by decide +kernel
theorem dX7_ruleOf_14 : decode cX7_ruleOf 14 = .ok (.getfield 32, 3) := by decide +kernel
theorem dX7_ruleOf_17 : decode cX7_ruleOf 17 = .ok (.iload_n 1, 1) := by decide +kernel
theorem dX7_ruleOf_18 : decode cX7_ruleOf 18 = .ok (.caload, 1) := by decide +kernel
theorem dX7_ruleOf_19 : decode cX7_ruleOf 19 = .ok (.ireturn, 1) := by decide +kernel
theorem dX7_depthOf_0 : decode cX7_depthOf 0 = .ok (.iconst 0, 1) := by decide +kernel
theorem dX7_depthOf_1 : decode cX7_depthOf 1 = .ok (.istore_n 2, 1) := by decide +kernel
theorem dX7_depthOf_2 : decode cX7_depthOf 2 = .ok (.aload_n 0, 1) := by decide +kernel
theorem dX7_depthOf_3 : decode cX7_depthOf 3 = .ok (.iload_n 1, 1) := by decide +kernel
theorem dX7_depthOf_4 : decode cX7_depthOf 4 = .ok (.invokevirtual 193, 3) := by decide +kernel
theorem dX7_depthOf_7 : decode cX7_depthOf 7 = .ok (.ifCond .ne 28, 3) := by decide +kernel
theorem dX7_depthOf_10 : decode cX7_depthOf 10 = .ok (.aload_n 0, 1) := by decide +kernel
theorem dX7_depthOf_11 : decode cX7_depthOf 11 = .ok (.getfield 35, 3) := by decide +kernel
theorem dX7_depthOf_14 : decode cX7_depthOf 14 = .ok (.iload_n 1, 1) := by decide +kernel
theorem dX7_depthOf_15 : decode cX7_depthOf 15 = .ok (.iaload, 1) := by decide +kernel
theorem dX7_depthOf_16 : decode cX7_depthOf 16 = .ok (.istore_n 3, 1) := by decide +kernel
theorem dX7_depthOf_17 : decode cX7_depthOf 17 = .ok (.iload_n 3, 1) := by decide +kernel
theorem dX7_depthOf_18 : decode cX7_depthOf 18 = .ok (.iconst (-1), 1) := by decide +kernel
theorem dX7_depthOf_19 : decode cX7_depthOf 19 = .ok (.if_icmp .eq 16, 3) := by decide +kernel
theorem dX7_depthOf_22 : decode cX7_depthOf 22 = .ok (.iinc 2 1, 3) := by decide +kernel
theorem dX7_depthOf_25 : decode cX7_depthOf 25 = .ok (.aload_n 0, 1) := by decide +kernel
theorem dX7_depthOf_26 : decode cX7_depthOf 26 = .ok (.getfield 43, 3) := by decide +kernel
theorem dX7_depthOf_29 : decode cX7_depthOf 29 = .ok (.iload_n 3, 1) := by decide +kernel
theorem dX7_depthOf_30 : decode cX7_depthOf 30 = .ok (.iaload, 1) := by decide +kernel
theorem dX7_depthOf_31 : decode cX7_depthOf 31 = .ok (.istore_n 3, 1) := by decide +kernel
theorem dX7_depthOf_32 : decode cX7_depthOf 32 = .ok (.goto (-15), 3) := by decide +kernel
theorem dX7_depthOf_35 : decode cX7_depthOf 35 = .ok (.iload_n 2, 1) := by decide +kernel
theorem dX7_depthOf_36 : decode cX7_depthOf 36 = .ok (.ireturn, 1) := by decide +kernel
theorem dX7_canCite_0 : decode cX7_canCite 0 = .ok (.aload_n 0, 1) := by decide +kernel
theorem dX7_canCite_1 : decode cX7_canCite 1 = .ok (.iload_n 1, 1) := by decide +kernel
theorem dX7_canCite_2 : decode cX7_canCite 2 = .ok (.invokevirtual 193, 3) := by decide +kernel
theorem dX7_canCite_5 : decode cX7_canCite 5 = .ok (.ifCond .ne 15, 3) := by decide +kernel
theorem dX7_canCite_8 : decode cX7_canCite 8 = .ok (.aload_n 0, 1) := by decide +kernel
theorem dX7_canCite_9 : decode cX7_canCite 9 = .ok (.iload_n 1, 1) := by decide +kernel
theorem dX7_canCite_10 : decode cX7_canCite 10 = .ok (.invokevirtual 152, 3) := by decide +kernel
theorem dX7_canCite_13 : decode cX7_canCite 13 = .ok (.ifCond .eq 7, 3) := by decide +kernel
theorem dX7_canCite_16 : decode cX7_canCite 16 = .ok (.iconst 1, 1) := by decide +kernel
theorem dX7_canCite_17 : decode cX7_canCite 17 = .ok (.goto 4, 3) := by decide +kernel
theorem dX7_canCite_20 : decode cX7_canCite 20 = .ok (.iconst 0, 1) := by decide +kernel
theorem dX7_canCite_21 : decode cX7_canCite 21 = .ok (.ireturn, 1) := by decide +kernel
theorem dX7_boxes_0 : decode cX7_boxes 0 = .ok (.aload_n 0, 1) := by decide +kernel
theorem dX7_boxes_1 : decode cX7_boxes 1 = .ok (.iconst 0, 1) := by decide +kernel
theorem dX7_boxes_2 : decode cX7_boxes 2 = .ok (.putfield 84, 3) := by decide +kernel
theorem dX7_boxes_5 : decode cX7_boxes 5 = .ok (.aload_n 0, 1) := by decide +kernel
theorem dX7_boxes_6 : decode cX7_boxes 6 = .ok (.getfield 97, 3) := by decide +kernel
theorem dX7_boxes_9 : decode cX7_boxes 9 = .ok (.ireturn, 1) := by decide +kernel
theorem dX7_lacksBox_0 : decode cX7_lacksBox 0 = .ok (.aload_n 0, 1) := by decide +kernel
theorem dX7_lacksBox_1 : decode cX7_lacksBox 1 = .ok (.aload_n 0, 1) := by decide +kernel
theorem dX7_lacksBox_2 : decode cX7_lacksBox 2 = .ok (.iload_n 1, 1) := by decide +kernel
theorem dX7_lacksBox_3 : decode cX7_lacksBox 3 = .ok (.invokevirtual 155, 3) := by decide +kernel
theorem dX7_lacksBox_6 : decode cX7_lacksBox 6 = .ok (.ifCond .eq 7, 3) := by decide +kernel
theorem dX7_lacksBox_9 : decode cX7_lacksBox 9 = .ok (.iconst 0, 1) := by decide +kernel
theorem dX7_lacksBox_10 : decode cX7_lacksBox 10 = .ok (.goto 4, 3) := by decide +kernel
theorem dX7_lacksBox_13 : decode cX7_lacksBox 13 = .ok (.iconst 1, 1) := by decide +kernel
theorem dX7_lacksBox_14 : decode cX7_lacksBox 14 = .ok (.putfield 84, 3) := by decide +kernel
theorem dX7_lacksBox_17 : decode cX7_lacksBox 17 = .ok (.aload_n 0, 1) := by decide +kernel
theorem dX7_lacksBox_18 : decode cX7_lacksBox 18 = .ok (.getfield 84, 3) := by decide +kernel
theorem dX7_lacksBox_21 : decode cX7_lacksBox 21 = .ok (.ifCond .le 7, 3) := by decide +kernel
theorem dX7_lacksBox_24 : decode cX7_lacksBox 24 = .ok (.iconst 1, 1) := by decide +kernel
theorem dX7_lacksBox_25 : decode cX7_lacksBox 25 = .ok (.goto 4, 3) := by decide +kernel
theorem dX7_lacksBox_28 : decode cX7_lacksBox 28 = .ok (.iconst 0, 1) := by decide +kernel
theorem dX7_lacksBox_29 : decode cX7_lacksBox 29 = .ok (.ireturn, 1) := by decide +kernel
theorem dX7_canCiteBox_0 : decode cX7_canCiteBox 0 = .ok (.aload_n 0, 1) := by decide +kernel
theorem dX7_canCiteBox_1 : decode cX7_canCiteBox 1 = .ok (.iload_n 1, 1) := by decide +kernel
theorem dX7_canCiteBox_2 : decode cX7_canCiteBox 2 = .ok (.invokevirtual 196, 3) := by decide +kernel
theorem dX7_canCiteBox_5 : decode cX7_canCiteBox 5 = .ok (.ifCond .ne 15, 3) := by decide +kernel
theorem dX7_canCiteBox_8 : decode cX7_canCiteBox 8 = .ok (.aload_n 0, 1) := by decide +kernel
theorem dX7_canCiteBox_9 : decode cX7_canCiteBox 9 = .ok (.iload_n 1, 1) := by decide +kernel
theorem dX7_canCiteBox_10 : decode cX7_canCiteBox 10 = .ok (.invokevirtual 158, 3) := by decide +kernel
theorem dX7_canCiteBox_13 : decode cX7_canCiteBox 13 = .ok (.ifCond .eq 7, 3) := by decide +kernel
theorem dX7_canCiteBox_16 : decode cX7_canCiteBox 16 = .ok (.iconst 1, 1) := by decide +kernel
theorem dX7_canCiteBox_17 : decode cX7_canCiteBox 17 = .ok (.goto 4, 3) := by decide +kernel
theorem dX7_canCiteBox_20 : decode cX7_canCiteBox 20 = .ok (.iconst 0, 1) := by decide +kernel
theorem dX7_canCiteBox_21 : decode cX7_canCiteBox 21 = .ok (.ireturn, 1) := by decide +kernel
theorem dX7_resultOf_0 : decode cX7_resultOf 0 = .ok (.aload_n 0, 1) := by decide +kernel
theorem dX7_resultOf_1 : decode cX7_resultOf 1 = .ok (.iload_n 1, 1) := by decide +kernel
theorem dX7_resultOf_2 : decode cX7_resultOf 2 = .ok (.invokevirtual 196, 3) := by decide +kernel
theorem dX7_resultOf_5 : decode cX7_resultOf 5 = .ok (.ifCond .eq 7, 3) := by decide +kernel
theorem dX7_resultOf_8 : decode cX7_resultOf 8 = .ok (.iconst 0, 1) := by decide +kernel
theorem dX7_resultOf_9 : decode cX7_resultOf 9 = .ok (.goto 8, 3) := by decide +kernel
theorem dX7_resultOf_12 : decode cX7_resultOf 12 = .ok (.aload_n 0, 1) := by decide +kernel
theorem dX7_resultOf_13 : decode cX7_resultOf 13 = .ok (.iload_n 1, 1) := by decide +kernel
theorem dX7_resultOf_14 : decode cX7_resultOf 14 = .ok (.invokevirtual 171, 3) := by decide +kernel
theorem dX7_resultOf_17 : decode cX7_resultOf 17 = .ok (.ireturn, 1) := by decide +kernel
theorem dX7_needed_0 : decode cX7_needed 0 = .ok (.aload_n 0, 1) := by decide +kernel
theorem dX7_needed_1 : decode cX7_needed 1 = .ok (.getfield 94, 3) := by decide +kernel
theorem dX7_needed_4 : decode cX7_needed 4 = .ok (.ifCond .ne 9, 3) := by decide +kernel
theorem dX7_needed_7 : decode cX7_needed 7 = .ok (.aload_n 0, 1) := by decide +kernel
theorem dX7_needed_8 : decode cX7_needed 8 = .ok (.iconst 1, 1) := by decide +kernel
theorem dX7_needed_9 : decode cX7_needed 9 = .ok (.invokevirtual 132, 3) := by decide +kernel
theorem dX7_needed_12 : decode cX7_needed 12 = .ok (.ireturn, 1) := by decide +kernel
theorem dX7_needed_13 : decode cX7_needed 13 = .ok (.aload_n 0, 1) := by decide +kernel
theorem dX7_needed_14 : decode cX7_needed 14 = .ok (.iconst 0, 1) := by decide +kernel
theorem dX7_needed_15 : decode cX7_needed 15 = .ok (.putfield 84, 3) := by decide +kernel
theorem dX7_needed_18 : decode cX7_needed 18 = .ok (.iconst 0, 1) := by decide +kernel
theorem dX7_needed_19 : decode cX7_needed 19 = .ok (.istore_n 1, 1) := by decide +kernel
theorem dX7_needed_20 : decode cX7_needed 20 = .ok (.iload_n 1, 1) := by decide +kernel
theorem dX7_needed_21 : decode cX7_needed 21 = .ok (.aload_n 0, 1) := by decide +kernel
theorem dX7_needed_22 : decode cX7_needed 22 = .ok (.getfield 94, 3) := by decide +kernel
theorem dX7_needed_25 : decode cX7_needed 25 = .ok (.if_icmp .ge 30, 3) := by decide +kernel
theorem dX7_needed_28 : decode cX7_needed 28 = .ok (.aload_n 0, 1) := by decide +kernel
theorem dX7_needed_29 : decode cX7_needed 29 = .ok (.getfield 81, 3) := by decide +kernel
theorem dX7_needed_32 : decode cX7_needed 32 = .ok (.iload_n 1, 1) := by decide +kernel
theorem dX7_needed_33 : decode cX7_needed 33 = .ok (.iload_n 1, 1) := by decide +kernel
theorem dX7_needed_34 : decode cX7_needed 34 = .ok (.aload_n 0, 1) := by decide +kernel
theorem dX7_needed_35 : decode cX7_needed 35 = .ok (.getfield 94, 3) := by decide +kernel
theorem dX7_needed_38 : decode cX7_needed 38 = .ok (.iconst 1, 1) := by decide +kernel
theorem dX7_needed_39 : decode cX7_needed 39 = .ok (.isub, 1) := by decide +kernel
theorem dX7_needed_40 : decode cX7_needed 40 = .ok (.if_icmp .ne 7, 3) := by decide +kernel
theorem dX7_needed_43 : decode cX7_needed 43 = .ok (.iconst 1, 1) := by decide +kernel
theorem dX7_needed_44 : decode cX7_needed 44 = .ok (.goto 4, 3) := by decide +kernel
theorem dX7_needed_47 : decode cX7_needed 47 = .ok (.iconst 0, 1) := by decide +kernel
theorem dX7_needed_48 : decode cX7_needed 48 = .ok (.bastore, 1) := by decide +kernel
theorem dX7_needed_49 : decode cX7_needed 49 = .ok (.iinc 1 1, 3) := by decide +kernel
theorem dX7_needed_52 : decode cX7_needed 52 = .ok (.goto (-32), 3) := by decide +kernel
theorem dX7_needed_55 : decode cX7_needed 55 = .ok (.iconst 0, 1) := by decide +kernel
theorem dX7_needed_56 : decode cX7_needed 56 = .ok (.istore_n 1, 1) := by decide +kernel
theorem dX7_needed_57 : decode cX7_needed 57 = .ok (.aload_n 0, 1) := by decide +kernel
theorem dX7_needed_58 : decode cX7_needed 58 = .ok (.getfield 94, 3) := by decide +kernel
theorem dX7_needed_61 : decode cX7_needed 61 = .ok (.iconst 1, 1) := by decide +kernel
theorem dX7_needed_62 : decode cX7_needed 62 = .ok (.isub, 1) := by decide +kernel
theorem dX7_needed_63 : decode cX7_needed 63 = .ok (.istore_n 2, 1) := by decide +kernel
theorem dX7_needed_64 : decode cX7_needed 64 = .ok (.iload_n 2, 1) := by decide +kernel
theorem dX7_needed_65 : decode cX7_needed 65 = .ok (.ifCond .lt 104, 3) := by decide +kernel
theorem dX7_needed_68 : decode cX7_needed 68 = .ok (.aload_n 0, 1) := by decide +kernel
theorem dX7_needed_69 : decode cX7_needed 69 = .ok (.getfield 81, 3) := by decide +kernel
theorem dX7_needed_72 : decode cX7_needed 72 = .ok (.iload_n 2, 1) := by decide +kernel
theorem dX7_needed_73 : decode cX7_needed 73 = .ok (.baload, 1) := by decide +kernel
theorem dX7_needed_74 : decode cX7_needed 74 = .ok (.ifCond .eq 89, 3) := by decide +kernel
theorem dX7_needed_77 : decode cX7_needed 77 = .ok (.iinc 1 1, 3) := by decide +kernel
theorem dX7_needed_80 : decode cX7_needed 80 = .ok (.iconst 0, 1) := by decide +kernel
theorem dX7_needed_81 : decode cX7_needed 81 = .ok (.istore_n 3, 1) := by decide +kernel
theorem dX7_needed_82 : decode cX7_needed 82 = .ok (.iload_n 3, 1) := by decide +kernel
theorem dX7_needed_83 : decode cX7_needed 83 = .ok (.iconst 2, 1) := by decide +kernel
theorem dX7_needed_84 : decode cX7_needed 84 = .ok (.if_icmp .ge 79, 3) := by decide +kernel
theorem dX7_needed_87 : decode cX7_needed 87 = .ok (.aload_n 0, 1) := by decide +kernel
theorem dX7_needed_88 : decode cX7_needed 88 = .ok (.getfield 40, 3) := by decide +kernel
theorem dX7_needed_91 : decode cX7_needed 91 = .ok (.iload_n 2, 1) := by decide +kernel
theorem dX7_needed_92 : decode cX7_needed 92 = .ok (.aaload, 1) := by decide +kernel
theorem dX7_needed_93 : decode cX7_needed 93 = .ok (.iload_n 3, 1) := by decide +kernel
theorem dX7_needed_94 : decode cX7_needed 94 = .ok (.iaload, 1) := by decide +kernel
theorem dX7_needed_95 : decode cX7_needed 95 = .ok (.iconst (-1), 1) := by decide +kernel
theorem dX7_needed_96 : decode cX7_needed 96 = .ok (.if_icmp .eq 17, 3) := by decide +kernel
theorem dX7_needed_99 : decode cX7_needed 99 = .ok (.aload_n 0, 1) := by decide +kernel
theorem dX7_needed_100 : decode cX7_needed 100 = .ok (.getfield 81, 3) := by decide +kernel
theorem dX7_needed_103 : decode cX7_needed 103 = .ok (.aload_n 0, 1) := by decide +kernel
theorem dX7_needed_104 : decode cX7_needed 104 = .ok (.getfield 40, 3) := by decide +kernel
theorem dX7_needed_107 : decode cX7_needed 107 = .ok (.iload_n 2, 1) := by decide +kernel
theorem dX7_needed_108 : decode cX7_needed 108 = .ok (.aaload, 1) := by decide +kernel
theorem dX7_needed_109 : decode cX7_needed 109 = .ok (.iload_n 3, 1) := by decide +kernel
theorem dX7_needed_110 : decode cX7_needed 110 = .ok (.iaload, 1) := by decide +kernel
theorem dX7_needed_111 : decode cX7_needed 111 = .ok (.iconst 1, 1) := by decide +kernel
theorem dX7_needed_112 : decode cX7_needed 112 = .ok (.bastore, 1) := by decide +kernel
theorem dX7_needed_113 : decode cX7_needed 113 = .ok (.aload_n 0, 1) := by decide +kernel
theorem dX7_needed_114 : decode cX7_needed 114 = .ok (.getfield 40, 3) := by decide +kernel
theorem dX7_needed_117 : decode cX7_needed 117 = .ok (.iload_n 2, 1) := by decide +kernel
theorem dX7_needed_118 : decode cX7_needed 118 = .ok (.aaload, 1) := by decide +kernel
theorem dX7_needed_119 : decode cX7_needed 119 = .ok (.iconst 2, 1) := by decide +kernel
theorem dX7_needed_120 : decode cX7_needed 120 = .ok (.iload_n 3, 1) := by decide +kernel
theorem dX7_needed_121 : decode cX7_needed 121 = .ok (.iadd, 1) := by decide +kernel
theorem dX7_needed_122 : decode cX7_needed 122 = .ok (.iaload, 1) := by decide +kernel
theorem dX7_needed_123 : decode cX7_needed 123 = .ok (.istore 4, 2) := by decide +kernel
theorem dX7_needed_125 : decode cX7_needed 125 = .ok (.iload 4, 2) := by decide +kernel
theorem dX7_needed_127 : decode cX7_needed 127 = .ok (.iconst (-1), 1) := by decide +kernel
theorem dX7_needed_128 : decode cX7_needed 128 = .ok (.if_icmp .eq 29, 3) := by decide +kernel
theorem dX7_needed_131 : decode cX7_needed 131 = .ok (.aload_n 0, 1) := by decide +kernel
theorem dX7_needed_132 : decode cX7_needed 132 = .ok (.getfield 81, 3) := by decide +kernel
theorem dX7_needed_135 : decode cX7_needed 135 = .ok (.aload_n 0, 1) := by decide +kernel
theorem dX7_needed_136 : decode cX7_needed 136 = .ok (.getfield 50, 3) := by decide +kernel
theorem dX7_needed_139 : decode cX7_needed 139 = .ok (.iload 4, 2) := by decide +kernel
theorem dX7_needed_141 : decode cX7_needed 141 = .ok (.iaload, 1) := by decide +kernel
theorem dX7_needed_142 : decode cX7_needed 142 = .ok (.iconst 1, 1) := by decide +kernel
theorem dX7_needed_143 : decode cX7_needed 143 = .ok (.bastore, 1) := by decide +kernel
theorem dX7_needed_144 : decode cX7_needed 144 = .ok (.aload_n 0, 1) := by decide +kernel
theorem dX7_needed_145 : decode cX7_needed 145 = .ok (.getfield 81, 3) := by decide +kernel
theorem dX7_needed_148 : decode cX7_needed 148 = .ok (.aload_n 0, 1) := by decide +kernel
theorem dX7_needed_149 : decode cX7_needed 149 = .ok (.getfield 53, 3) := by decide +kernel
theorem dX7_needed_152 : decode cX7_needed 152 = .ok (.iload 4, 2) := by decide +kernel
theorem dX7_needed_154 : decode cX7_needed 154 = .ok (.iaload, 1) := by decide +kernel
theorem dX7_needed_155 : decode cX7_needed 155 = .ok (.iconst 1, 1) := by decide +kernel
theorem dX7_needed_156 : decode cX7_needed 156 = .ok (.bastore, 1) := by decide +kernel
theorem dX7_needed_157 : decode cX7_needed 157 = .ok (.iinc 3 1, 3) := by decide +kernel
theorem dX7_needed_160 : decode cX7_needed 160 = .ok (.goto (-78), 3) := by decide +kernel
theorem dX7_needed_163 : decode cX7_needed 163 = .ok (.iinc 2 (-1), 3) := by decide +kernel
theorem dX7_needed_166 : decode cX7_needed 166 = .ok (.goto (-102), 3) := by decide +kernel
theorem dX7_needed_169 : decode cX7_needed 169 = .ok (.iload_n 1, 1) := by decide +kernel
theorem dX7_needed_170 : decode cX7_needed 170 = .ok (.ireturn, 1) := by decide +kernel
theorem dX7_views_0 : decode cX7_views 0 = .ok (.iload_n 1, 1) := by decide +kernel
theorem dX7_views_1 : decode cX7_views 1 = .ok (.iconst (-1), 1) := by decide +kernel
theorem dX7_views_2 : decode cX7_views 2 = .ok (.if_icmp .eq 39, 3) := by decide +kernel
theorem dX7_views_5 : decode cX7_views 5 = .ok (.aload_n 0, 1) := by decide +kernel
theorem dX7_views_6 : decode cX7_views 6 = .ok (.getfield 75, 3) := by decide +kernel
theorem dX7_views_9 : decode cX7_views 9 = .ok (.iload_n 1, 1) := by decide +kernel
theorem dX7_views_10 : decode cX7_views 10 = .ok (.baload, 1) := by decide +kernel
theorem dX7_views_11 : decode cX7_views 11 = .ok (.ifCond .ne 30, 3) := by decide +kernel
theorem dX7_views_14 : decode cX7_views 14 = .ok (.aload_n 0, 1) := by decide +kernel
theorem dX7_views_15 : decode cX7_views 15 = .ok (.getfield 75, 3) := by decide +kernel
theorem dX7_views_18 : decode cX7_views 18 = .ok (.iload_n 1, 1) := by decide +kernel
theorem dX7_views_19 : decode cX7_views 19 = .ok (.iconst 1, 1) := by decide +kernel
theorem dX7_views_20 : decode cX7_views 20 = .ok (.bastore, 1) := by decide +kernel
theorem dX7_views_21 : decode cX7_views 21 = .ok (.aload_n 0, 1) := by decide +kernel
theorem dX7_views_22 : decode cX7_views 22 = .ok (.aload_n 0, 1) := by decide +kernel
theorem dX7_views_23 : decode cX7_views 23 = .ok (.getfield 13, 3) := by decide +kernel
theorem dX7_views_26 : decode cX7_views 26 = .ok (.iload_n 1, 1) := by decide +kernel
