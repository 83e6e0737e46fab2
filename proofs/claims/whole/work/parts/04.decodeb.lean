theorem dX8_extend_105 : decode cX8_extend 105 = .ok (.aload_n 0, 1) := by decide +kernel
theorem dX8_extend_106 : decode cX8_extend 106 = .ok (.iload_n 1, 1) := by decide +kernel
theorem dX8_extend_107 : decode cX8_extend 107 = .ok (.aload_n 0, 1) := by decide +kernel
theorem dX8_extend_108 : decode cX8_extend 108 = .ok (.getfield 12, 3) := by decide +kernel
theorem dX8_extend_111 : decode cX8_extend 111 = .ok (.getfield 108, 3) := by decide +kernel
theorem dX8_extend_114 : decode cX8_extend 114 = .ok (.invokevirtual 111, 3) := by decide +kernel
theorem dX8_extend_117 : decode cX8_extend 117 = .ok (.aload_n 0, 1) := by decide +kernel
theorem dX8_extend_118 : decode cX8_extend 118 = .ok (.getfield 26, 3) := by decide +kernel
theorem dX8_extend_121 : decode cX8_extend 121 = .ok (.invokevirtual 203, 3) := by decide +kernel
theorem dX8_extend_124 : decode cX8_extend 124 = .ok (.ireturn, 1) := by decide +kernel
theorem dX8_optimal_0 : decode cX8_optimal 0 = .ok (.iload_n 2, 1) := by decide +kernel
theorem dX8_optimal_1 : decode cX8_optimal 1 = .ok (.invokestatic 71, 3) := by decide +kernel
theorem dX8_optimal_4 : decode cX8_optimal 4 = .ok (.iload_n 1, 1) := by decide +kernel
theorem dX8_optimal_5 : decode cX8_optimal 5 = .ok (.iconst 1, 1) := by decide +kernel
theorem dX8_optimal_6 : decode cX8_optimal 6 = .ok (.if_icmp .lt 9, 3) := by decide +kernel
theorem dX8_optimal_9 : decode cX8_optimal 9 = .ok (.iload_n 1, 1) := by decide +kernel
theorem dX8_optimal_10 : decode cX8_optimal 10 = .ok (.bipush 7, 2) := by decide +kernel
theorem dX8_optimal_12 : decode cX8_optimal 12 = .ok (.if_icmp .le 13, 3) := by decide +kernel
theorem dX8_optimal_15 : decode cX8_optimal 15 = .ok (.new 75, 3) := by decide +kernel
theorem dX8_optimal_18 : decode cX8_optimal 18 = .ok (.dup, 1) := by decide +kernel
theorem dX8_optimal_19 : decode cX8_optimal 19 = .ok (.ldc 235, 2) := by decide +kernel
theorem dX8_optimal_21 : decode cX8_optimal 21 = .ok (.invokespecial 79, 3) := by decide +kernel
theorem dX8_optimal_24 : decode cX8_optimal 24 = .ok (.athrow, 1) := by decide +kernel
theorem dX8_optimal_25 : decode cX8_optimal 25 = .ok (.aload_n 0, 1) := by decide +kernel
theorem dX8_optimal_26 : decode cX8_optimal 26 = .ok (.iload_n 1, 1) := by decide +kernel
theorem dX8_optimal_27 : decode cX8_optimal 27 = .ok (.invokevirtual 247, 3) := by decide +kernel
theorem dX8_optimal_30 : decode cX8_optimal 30 = .ok (.aload_n 0, 1) := by decide +kernel
theorem dX8_optimal_31 : decode cX8_optimal 31 = .ok (.iload_n 2, 1) := by decide +kernel
theorem dX8_optimal_32 : decode cX8_optimal 32 = .ok (.aload_n 0, 1) := by decide +kernel
theorem dX8_optimal_33 : decode cX8_optimal 33 = .ok (.getfield 12, 3) := by decide +kernel
theorem dX8_optimal_36 : decode cX8_optimal 36 = .ok (.getfield 108, 3) := by decide +kernel
theorem dX8_optimal_39 : decode cX8_optimal 39 = .ok (.invokevirtual 111, 3) := by decide +kernel
theorem dX8_optimal_42 : decode cX8_optimal 42 = .ok (.aload_n 0, 1) := by decide +kernel
theorem dX8_optimal_43 : decode cX8_optimal 43 = .ok (.getfield 26, 3) := by decide +kernel
theorem dX8_optimal_46 : decode cX8_optimal 46 = .ok (.invokevirtual 133, 3) := by decide +kernel
theorem dX8_optimal_49 : decode cX8_optimal 49 = .ok (.ireturn, 1) := by decide +kernel
theorem dX8_sparse_0 : decode cX8_sparse 0 = .ok (.iload_n 2, 1) := by decide +kernel
theorem dX8_sparse_1 : decode cX8_sparse 1 = .ok (.invokestatic 71, 3) := by decide +kernel
theorem dX8_sparse_4 : decode cX8_sparse 4 = .ok (.iload_n 1, 1) := by decide +kernel
theorem dX8_sparse_5 : decode cX8_sparse 5 = .ok (.iconst 1, 1) := by decide +kernel
theorem dX8_sparse_6 : decode cX8_sparse 6 = .ok (.if_icmp .lt 9, 3) := by decide +kernel
theorem dX8_sparse_9 : decode cX8_sparse 9 = .ok (.iload_n 1, 1) := by decide +kernel
theorem dX8_sparse_10 : decode cX8_sparse 10 = .ok (.bipush 20, 2) := by decide +kernel
theorem dX8_sparse_12 : decode cX8_sparse 12 = .ok (.if_icmp .le 13, 3) := by decide +kernel
theorem dX8_sparse_15 : decode cX8_sparse 15 = .ok (.new 75, 3) := by decide +kernel
theorem dX8_sparse_18 : decode cX8_sparse 18 = .ok (.dup, 1) := by decide +kernel
theorem dX8_sparse_19 : decode cX8_sparse 19 = .ok (.ldc 235, 2) := by decide +kernel
theorem dX8_sparse_21 : decode cX8_sparse 21 = .ok (.invokespecial 79, 3) := by decide +kernel
theorem dX8_sparse_24 : decode cX8_sparse 24 = .ok (.athrow, 1) := by decide +kernel
theorem dX8_sparse_25 : decode cX8_sparse 25 = .ok (.aload_n 0, 1) := by decide +kernel
theorem dX8_sparse_26 : decode cX8_sparse 26 = .ok (.iload_n 1, 1) := by decide +kernel
theorem dX8_sparse_27 : decode cX8_sparse 27 = .ok (.invokevirtual 250, 3) := by decide +kernel
theorem dX8_sparse_30 : decode cX8_sparse 30 = .ok (.aload_n 0, 1) := by decide +kernel
theorem dX8_sparse_31 : decode cX8_sparse 31 = .ok (.iload_n 2, 1) := by decide +kernel
theorem dX8_sparse_32 : decode cX8_sparse 32 = .ok (.aload_n 0, 1) := by decide +kernel
theorem dX8_sparse_33 : decode cX8_sparse 33 = .ok (.getfield 12, 3) := by decide +kernel
theorem dX8_sparse_36 : decode cX8_sparse 36 = .ok (.getfield 108, 3) := by decide +kernel
theorem dX8_sparse_39 : decode cX8_sparse 39 = .ok (.invokevirtual 111, 3) := by decide +kernel
theorem dX8_sparse_42 : decode cX8_sparse 42 = .ok (.aload_n 0, 1) := by decide +kernel
theorem dX8_sparse_43 : decode cX8_sparse 43 = .ok (.getfield 26, 3) := by decide +kernel
theorem dX8_sparse_46 : decode cX8_sparse 46 = .ok (.getfield 98, 3) := by decide +kernel
theorem dX8_sparse_49 : decode cX8_sparse 49 = .ok (.ireturn, 1) := by decide +kernel
theorem dX8_firstDifferenceSet_0 : decode cX8_firstDifferenceSet 0 = .ok (.iload_n 3, 1) := by decide +kernel
theorem dX8_firstDifferenceSet_1 : decode cX8_firstDifferenceSet 1 = .ok (.invokestatic 71, 3) := by decide +kernel
theorem dX8_firstDifferenceSet_4 : decode cX8_firstDifferenceSet 4 = .ok (.iload_n 1, 1) := by decide +kernel
theorem dX8_firstDifferenceSet_5 : decode cX8_firstDifferenceSet 5 = .ok (.iconst 3, 1) := by decide +kernel
theorem dX8_firstDifferenceSet_6 : decode cX8_firstDifferenceSet 6 = .ok (.if_icmp .lt 25, 3) := by decide +kernel
theorem dX8_firstDifferenceSet_9 : decode cX8_firstDifferenceSet 9 = .ok (.iload_n 1, 1) := by decide +kernel
theorem dX8_firstDifferenceSet_10 : decode cX8_firstDifferenceSet 10 = .ok (.bipush 31, 2) := by decide +kernel
theorem dX8_firstDifferenceSet_12 : decode cX8_firstDifferenceSet 12 = .ok (.if_icmp .gt 19, 3) := by decide +kernel
theorem dX8_firstDifferenceSet_15 : decode cX8_firstDifferenceSet 15 = .ok (.iload_n 2, 1) := by decide +kernel
theorem dX8_firstDifferenceSet_16 : decode cX8_firstDifferenceSet 16 = .ok (.iconst 2, 1) := by decide +kernel
theorem dX8_firstDifferenceSet_17 : decode cX8_firstDifferenceSet 17 = .ok (.if_icmp .lt 14, 3) := by decide +kernel
theorem dX8_firstDifferenceSet_20 : decode cX8_firstDifferenceSet 20 = .ok (.iload_n 2, 1) := by decide +kernel
theorem dX8_firstDifferenceSet_21 : decode cX8_firstDifferenceSet 21 = .ok (.bipush 6, 2) := by decide +kernel
theorem dX8_firstDifferenceSet_23 : decode cX8_firstDifferenceSet 23 = .ok (.if_icmp .gt 8, 3) := by decide +kernel
theorem dX8_firstDifferenceSet_26 : decode cX8_firstDifferenceSet 26 = .ok (.iload_n 2, 1) := by decide +kernel
theorem dX8_firstDifferenceSet_27 : decode cX8_firstDifferenceSet 27 = .ok (.iload_n 1, 1) := by decide +kernel
theorem dX8_firstDifferenceSet_28 : decode cX8_firstDifferenceSet 28 = .ok (.if_icmp .lt 13, 3) := by decide +kernel
theorem dX8_firstDifferenceSet_31 : decode cX8_firstDifferenceSet 31 = .ok (.new 75, 3) := by decide +kernel
theorem dX8_firstDifferenceSet_34 : decode cX8_firstDifferenceSet 34 = .ok (.dup, 1) := by decide +kernel
theorem dX8_firstDifferenceSet_35 : decode cX8_firstDifferenceSet 35 = .ok (.ldc 253, 2) := by decide +kernel
theorem dX8_firstDifferenceSet_37 : decode cX8_firstDifferenceSet 37 = .ok (.invokespecial 79, 3) := by decide +kernel
theorem dX8_firstDifferenceSet_40 : decode cX8_firstDifferenceSet 40 = .ok (.athrow, 1) := by decide +kernel
theorem dX8_firstDifferenceSet_41 : decode cX8_firstDifferenceSet 41 = .ok (.iload_n 2, 1) := by decide +kernel
theorem dX8_firstDifferenceSet_42 : decode cX8_firstDifferenceSet 42 = .ok (.iload_n 2, 1) := by decide +kernel
theorem dX8_firstDifferenceSet_43 : decode cX8_firstDifferenceSet 43 = .ok (.iconst 1, 1) := by decide +kernel
theorem dX8_firstDifferenceSet_44 : decode cX8_firstDifferenceSet 44 = .ok (.isub, 1) := by decide +kernel
theorem dX8_firstDifferenceSet_45 : decode cX8_firstDifferenceSet 45 = .ok (.imul, 1) := by decide +kernel
theorem dX8_firstDifferenceSet_46 : decode cX8_firstDifferenceSet 46 = .ok (.istore 4, 2) := by decide +kernel
theorem dX8_firstDifferenceSet_48 : decode cX8_firstDifferenceSet 48 = .ok (.iload 4, 2) := by decide +kernel
theorem dX8_firstDifferenceSet_50 : decode cX8_firstDifferenceSet 50 = .ok (.iload_n 1, 1) := by decide +kernel
theorem dX8_firstDifferenceSet_51 : decode cX8_firstDifferenceSet 51 = .ok (.iconst 1, 1) := by decide +kernel
theorem dX8_firstDifferenceSet_52 : decode cX8_firstDifferenceSet 52 = .ok (.isub, 1) := by decide +kernel
theorem dX8_firstDifferenceSet_53 : decode cX8_firstDifferenceSet 53 = .ok (.invokestatic 217, 3) := by decide +kernel
theorem dX8_firstDifferenceSet_56 : decode cX8_firstDifferenceSet 56 = .ok (.ifCond .eq 5, 3) := by decide +kernel
theorem dX8_firstDifferenceSet_59 : decode cX8_firstDifferenceSet 59 = .ok (.iconst (-1), 1) := by decide +kernel
theorem dX8_firstDifferenceSet_60 : decode cX8_firstDifferenceSet 60 = .ok (.ireturn, 1) := by decide +kernel
theorem dX8_firstDifferenceSet_61 : decode cX8_firstDifferenceSet 61 = .ok (.iload 4, 2) := by decide +kernel
theorem dX8_firstDifferenceSet_63 : decode cX8_firstDifferenceSet 63 = .ok (.iload_n 1, 1) := by decide +kernel
theorem dX8_firstDifferenceSet_64 : decode cX8_firstDifferenceSet 64 = .ok (.iconst 1, 1) := by decide +kernel
theorem dX8_firstDifferenceSet_65 : decode cX8_firstDifferenceSet 65 = .ok (.isub, 1) := by decide +kernel
theorem dX8_firstDifferenceSet_66 : decode cX8_firstDifferenceSet 66 = .ok (.invokestatic 255, 3) := by decide +kernel
theorem dX8_firstDifferenceSet_69 : decode cX8_firstDifferenceSet 69 = .ok (.istore 5, 2) := by decide +kernel
theorem dX8_firstDifferenceSet_71 : decode cX8_firstDifferenceSet 71 = .ok (.aload_n 0, 1) := by decide +kernel
theorem dX8_firstDifferenceSet_72 : decode cX8_firstDifferenceSet 72 = .ok (.iload_n 1, 1) := by decide +kernel
theorem dX8_firstDifferenceSet_73 : decode cX8_firstDifferenceSet 73 = .ok (.iload_n 2, 1) := by decide +kernel
theorem dX8_firstDifferenceSet_74 : decode cX8_firstDifferenceSet 74 = .ok (.iload 5, 2) := by decide +kernel
theorem dX8_firstDifferenceSet_76 : decode cX8_firstDifferenceSet 76 = .ok (.invokevirtual 258, 3) := by decide +kernel
theorem dX8_firstDifferenceSet_79 : decode cX8_firstDifferenceSet 79 = .ok (.ifCond .ne 5, 3) := by decide +kernel
theorem dX8_firstDifferenceSet_82 : decode cX8_firstDifferenceSet 82 = .ok (.iconst (-1), 1) := by decide +kernel
theorem dX8_firstDifferenceSet_83 : decode cX8_firstDifferenceSet 83 = .ok (.ireturn, 1) := by decide +kernel
theorem dX8_firstDifferenceSet_84 : decode cX8_firstDifferenceSet 84 = .ok (.aload_n 0, 1) := by decide +kernel
theorem dX8_firstDifferenceSet_85 : decode cX8_firstDifferenceSet 85 = .ok (.iload_n 3, 1) := by decide +kernel
theorem dX8_firstDifferenceSet_86 : decode cX8_firstDifferenceSet 86 = .ok (.iload_n 1, 1) := by decide +kernel
theorem dX8_firstDifferenceSet_87 : decode cX8_firstDifferenceSet 87 = .ok (.invokevirtual 111, 3) := by decide +kernel
theorem dX8_firstDifferenceSet_90 : decode cX8_firstDifferenceSet 90 = .ok (.iload 5, 2) := by decide +kernel
theorem dX8_firstDifferenceSet_92 : decode cX8_firstDifferenceSet 92 = .ok (.ireturn, 1) := by decide +kernel
theorem dX8_undo_0 : decode cX8_undo 0 = .ok (.aload_n 0, 1) := by decide +kernel
theorem dX8_undo_1 : decode cX8_undo 1 = .ok (.getfield 19, 3) := by decide +kernel
theorem dX8_undo_4 : decode cX8_undo 4 = .ok (.getfield 262, 3) := by decide +kernel
theorem dX8_undo_7 : decode cX8_undo 7 = .ok (.ifCond .ne 14, 3) := by decide +kernel
theorem dX8_undo_10 : decode cX8_undo 10 = .ok (.new 93, 3) := by decide +kernel
theorem dX8_undo_13 : decode cX8_undo 13 = .ok (.dup, 1) := by decide +kernel
theorem dX8_undo_14 : decode cX8_undo 14 = .ok (.ldc_w 265, 3) := by decide +kernel
theorem dX8_undo_17 : decode cX8_undo 17 = .ok (.invokespecial 97, 3) := by decide +kernel
theorem dX8_undo_20 : decode cX8_undo 20 = .ok (.athrow, 1) := by decide +kernel
theorem dX8_undo_21 : decode cX8_undo 21 = .ok (.aload_n 0, 1) := by decide +kernel
theorem dX8_undo_22 : decode cX8_undo 22 = .ok (.getfield 19, 3) := by decide +kernel
theorem dX8_undo_25 : decode cX8_undo 25 = .ok (.aload_n 0, 1) := by decide +kernel
theorem dX8_undo_26 : decode cX8_undo 26 = .ok (.getfield 12, 3) := by decide +kernel
theorem dX8_undo_29 : decode cX8_undo 29 = .ok (.invokevirtual 267, 3) := by decide +kernel
theorem dX8_undo_32 : decode cX8_undo 32 = .ok (.aload_n 0, 1) := by decide +kernel
theorem dX8_undo_33 : decode cX8_undo 33 = .ok (.getfield 19, 3) := by decide +kernel
theorem dX8_undo_36 : decode cX8_undo 36 = .ok (.getfield 262, 3) := by decide +kernel
theorem dX8_undo_39 : decode cX8_undo 39 = .ok (.ireturn, 1) := by decide +kernel
theorem dX8_digest_0 : decode cX8_digest 0 = .ok (.aload_n 0, 1) := by decide +kernel
theorem dX8_digest_1 : decode cX8_digest 1 = .ok (.invokevirtual 159, 3) := by decide +kernel
theorem dX8_digest_4 : decode cX8_digest 4 = .ok (.ldc2_w 270, 3) := by decide +kernel
theorem dX8_digest_7 : decode cX8_digest 7 = .ok (.aload_n 0, 1) := by decide +kernel
theorem dX8_digest_8 : decode cX8_digest 8 = .ok (.getfield 19, 3) := by decide +kernel
theorem dX8_digest_11 : decode cX8_digest 11 = .ok (.getfield 262, 3) := by decide +kernel
theorem dX8_digest_14 : decode cX8_digest 14 = .ok (.i2l, 1) := by decide +kernel
theorem dX8_digest_15 : decode cX8_digest 15 = .ok (.invokestatic 272, 3) := by decide +kernel
theorem dX8_digest_18 : decode cX8_digest 18 = .ok (.aload_n 0, 1) := by decide +kernel
theorem dX8_digest_19 : decode cX8_digest 19 = .ok (.getfield 12, 3) := by decide +kernel
theorem dX8_digest_22 : decode cX8_digest 22 = .ok (.getfield 108, 3) := by decide +kernel
theorem dX8_digest_25 : decode cX8_digest 25 = .ok (.i2l, 1) := by decide +kernel
theorem dX8_digest_26 : decode cX8_digest 26 = .ok (.invokestatic 272, 3) := by decide +kernel
theorem dX8_digest_29 : decode cX8_digest 29 = .ok (.lstore_n 1, 1) := by decide +kernel
theorem dX8_digest_30 : decode cX8_digest 30 = .ok (.iconst 0, 1) := by decide +kernel
theorem dX8_digest_31 : decode cX8_digest 31 = .ok (.istore_n 3, 1) := by decide +kernel
theorem dX8_digest_32 : decode cX8_digest 32 = .ok (.iload_n 3, 1) := by decide +kernel
theorem dX8_digest_33 : decode cX8_digest 33 = .ok (.iconst 4, 1) := by decide +kernel
theorem dX8_digest_34 : decode cX8_digest 34 = .ok (.if_icmp .ge 30, 3) := by decide +kernel
theorem dX8_digest_37 : decode cX8_digest 37 = .ok (.aload_n 0, 1) := by decide +kernel
theorem dX8_digest_38 : decode cX8_digest 38 = .ok (.lload_n 1, 1) := by decide +kernel
theorem dX8_digest_39 : decode cX8_digest 39 = .ok (.aload_n 0, 1) := by decide +kernel
theorem dX8_digest_40 : decode cX8_digest 40 = .ok (.getfield 12, 3) := by decide +kernel
theorem dX8_digest_43 : decode cX8_digest 43 = .ok (.getfield 82, 3) := by decide +kernel
theorem dX8_digest_46 : decode cX8_digest 46 = .ok (.iload_n 3, 1) := by decide +kernel
theorem dX8_digest_47 : decode cX8_digest 47 = .ok (.aaload, 1) := by decide +kernel
theorem dX8_digest_48 : decode cX8_digest 48 = .ok (.aload_n 0, 1) := by decide +kernel
theorem dX8_digest_49 : decode cX8_digest 49 = .ok (.getfield 52, 3) := by decide +kernel
theorem dX8_digest_52 : decode cX8_digest 52 = .ok (.iload_n 3, 1) := by decide +kernel
theorem dX8_digest_53 : decode cX8_digest 53 = .ok (.aaload, 1) := by decide +kernel
theorem dX8_digest_54 : decode cX8_digest 54 = .ok (.invokevirtual 276, 3) := by decide +kernel
theorem dX8_digest_57 : decode cX8_digest 57 = .ok (.lstore_n 1, 1) := by decide +kernel
theorem dX8_digest_58 : decode cX8_digest 58 = .ok (.iinc 3 1, 3) := by decide +kernel
theorem dX8_digest_61 : decode cX8_digest 61 = .ok (.goto (-29), 3) := by decide +kernel
theorem dX8_digest_64 : decode cX8_digest 64 = .ok (.iconst 0, 1) := by decide +kernel
theorem dX8_digest_65 : decode cX8_digest 65 = .ok (.istore_n 3, 1) := by decide +kernel
theorem dX8_digest_66 : decode cX8_digest 66 = .ok (.iload_n 3, 1) := by decide +kernel
theorem dX8_digest_67 : decode cX8_digest 67 = .ok (.bipush 15, 2) := by decide +kernel
theorem dX8_digest_69 : decode cX8_digest 69 = .ok (.if_icmp .gt 27, 3) := by decide +kernel
theorem dX8_digest_72 : decode cX8_digest 72 = .ok (.lload_n 1, 1) := by decide +kernel
theorem dX8_digest_73 : decode cX8_digest 73 = .ok (.aload_n 0, 1) := by decide +kernel
theorem dX8_digest_74 : decode cX8_digest 74 = .ok (.iload_n 3, 1) := by decide +kernel
theorem dX8_digest_75 : decode cX8_digest 75 = .ok (.invokevirtual 162, 3) := by decide +kernel
theorem dX8_digest_78 : decode cX8_digest 78 = .ok (.ifCond .eq 7, 3) := by decide +kernel
theorem dX8_digest_81 : decode cX8_digest 81 = .ok (.lconst 1, 1) := by decide +kernel
theorem dX8_digest_82 : decode cX8_digest 82 = .ok (.goto 4, 3) := by decide +kernel
theorem dX8_digest_85 : decode cX8_digest 85 = .ok (.lconst 0, 1) := by decide +kernel
theorem dX8_digest_86 : decode cX8_digest 86 = .ok (.invokestatic 272, 3) := by decide +kernel
theorem dX8_digest_89 : decode cX8_digest 89 = .ok (.lstore_n 1, 1) := by decide +kernel
theorem dX8_digest_90 : decode cX8_digest 90 = .ok (.iinc 3 1, 3) := by decide +kernel
theorem dX8_digest_93 : decode cX8_digest 93 = .ok (.goto (-27), 3) := by decide +kernel
theorem dX8_digest_96 : decode cX8_digest 96 = .ok (.lload_n 1, 1) := by decide +kernel
theorem dX8_digest_97 : decode cX8_digest 97 = .ok (.lreturn, 1) := by decide +kernel
theorem dX8_mixedSet_0 : decode cX8_mixedSet 0 = .ok (.lload_n 1, 1) := by decide +kernel
theorem dX8_mixedSet_1 : decode cX8_mixedSet 1 = .ok (.aload_n 3, 1) := by decide +kernel
theorem dX8_mixedSet_2 : decode cX8_mixedSet 2 = .ok (.getfield 98, 3) := by decide +kernel
theorem dX8_mixedSet_5 : decode cX8_mixedSet 5 = .ok (.i2l, 1) := by decide +kernel
theorem dX8_mixedSet_6 : decode cX8_mixedSet 6 = .ok (.invokestatic 272, 3) := by decide +kernel
theorem dX8_mixedSet_9 : decode cX8_mixedSet 9 = .ok (.lstore 5, 2) := by decide +kernel
theorem dX8_mixedSet_11 : decode cX8_mixedSet 11 = .ok (.iconst 0, 1) := by decide +kernel
theorem dX8_mixedSet_12 : decode cX8_mixedSet 12 = .ok (.istore 7, 2) := by decide +kernel
theorem dX8_mixedSet_14 : decode cX8_mixedSet 14 = .ok (.iload 7, 2) := by decide +kernel
theorem dX8_mixedSet_16 : decode cX8_mixedSet 16 = .ok (.aload_n 3, 1) := by decide +kernel
theorem dX8_mixedSet_17 : decode cX8_mixedSet 17 = .ok (.getfield 98, 3) := by decide +kernel
theorem dX8_mixedSet_20 : decode cX8_mixedSet 20 = .ok (.if_icmp .ge 23, 3) := by decide +kernel
theorem dX8_mixedSet_23 : decode cX8_mixedSet 23 = .ok (.lload 5, 2) := by decide +kernel
theorem dX8_mixedSet_25 : decode cX8_mixedSet 25 = .ok (.aload_n 3, 1) := by decide +kernel
theorem dX8_mixedSet_26 : decode cX8_mixedSet 26 = .ok (.iload 7, 2) := by decide +kernel
theorem dX8_mixedSet_28 : decode cX8_mixedSet 28 = .ok (.invokevirtual 90, 3) := by decide +kernel
theorem dX8_mixedSet_31 : decode cX8_mixedSet 31 = .ok (.i2l, 1) := by decide +kernel
theorem dX8_mixedSet_32 : decode cX8_mixedSet 32 = .ok (.invokestatic 272, 3) := by decide +kernel
theorem dX8_mixedSet_35 : decode cX8_mixedSet 35 = .ok (.lstore 5, 2) := by decide +kernel
theorem dX8_mixedSet_37 : decode cX8_mixedSet 37 = .ok (.iinc 7 1, 3) := by decide +kernel
theorem dX8_mixedSet_40 : decode cX8_mixedSet 40 = .ok (.goto (-26), 3) := by decide +kernel
theorem dX8_mixedSet_43 : decode cX8_mixedSet 43 = .ok (.lload 5, 2) := by decide +kernel
theorem dX8_mixedSet_45 : decode cX8_mixedSet 45 = .ok (.aload 4, 2) := by decide +kernel
theorem dX8_mixedSet_47 : decode cX8_mixedSet 47 = .ok (.getfield 146, 3) := by decide +kernel
theorem dX8_mixedSet_50 : decode cX8_mixedSet 50 = .ok (.ifCond .eq 7, 3) := by decide +kernel
theorem dX8_mixedSet_53 : decode cX8_mixedSet 53 = .ok (.lconst 1, 1) := by decide +kernel
theorem dX8_mixedSet_54 : decode cX8_mixedSet 54 = .ok (.goto 4, 3) := by decide +kernel
theorem dX8_mixedSet_57 : decode cX8_mixedSet 57 = .ok (.lconst 0, 1) := by decide +kernel
theorem dX8_mixedSet_58 : decode cX8_mixedSet 58 = .ok (.invokestatic 272, 3) := by decide +kernel
theorem dX8_mixedSet_61 : decode cX8_mixedSet 61 = .ok (.lstore 5, 2) := by decide +kernel
theorem dX8_mixedSet_63 : decode cX8_mixedSet 63 = .ok (.lload 5, 2) := by decide +kernel
theorem dX8_mixedSet_65 : decode cX8_mixedSet 65 = .ok (.aload 4, 2) := by decide +kernel
theorem dX8_mixedSet_67 : decode cX8_mixedSet 67 = .ok (.invokevirtual 150, 3) := by decide +kernel
theorem dX8_mixedSet_70 : decode cX8_mixedSet 70 = .ok (.i2l, 1) := by decide +kernel
theorem dX8_mixedSet_71 : decode cX8_mixedSet 71 = .ok (.invokestatic 272, 3) := by decide +kernel
theorem dX8_mixedSet_74 : decode cX8_mixedSet 74 = .ok (.lstore 5, 2) := by decide +kernel
theorem dX8_mixedSet_76 : decode cX8_mixedSet 76 = .ok (.lload 5, 2) := by decide +kernel
theorem dX8_mixedSet_78 : decode cX8_mixedSet 78 = .ok (.aload 4, 2) := by decide +kernel
theorem dX8_mixedSet_80 : decode cX8_mixedSet 80 = .ok (.getfield 153, 3) := by decide +kernel
theorem dX8_mixedSet_83 : decode cX8_mixedSet 83 = .ok (.invokevirtual 154, 3) := by decide +kernel
theorem dX8_mixedSet_86 : decode cX8_mixedSet 86 = .ok (.i2l, 1) := by decide +kernel
theorem dX8_mixedSet_87 : decode cX8_mixedSet 87 = .ok (.invokestatic 272, 3) := by decide +kernel
theorem dX8_mixedSet_90 : decode cX8_mixedSet 90 = .ok (.lstore 5, 2) := by decide +kernel
theorem dX8_mixedSet_92 : decode cX8_mixedSet 92 = .ok (.aload_n 3, 1) := by decide +kernel
theorem dX8_mixedSet_93 : decode cX8_mixedSet 93 = .ok (.invokevirtual 203, 3) := by decide +kernel
theorem dX8_mixedSet_96 : decode cX8_mixedSet 96 = .ok (.aload_n 0, 1) := by decide +kernel
theorem dX8_mixedSet_97 : decode cX8_mixedSet 97 = .ok (.getfield 12, 3) := by decide +kernel
theorem dX8_mixedSet_100 : decode cX8_mixedSet 100 = .ok (.getfield 108, 3) := by decide +kernel
theorem dX8_mixedSet_103 : decode cX8_mixedSet 103 = .ok (.if_icmp .ge 29, 3) := by decide +kernel
theorem dX8_mixedSet_106 : decode cX8_mixedSet 106 = .ok (.lload 5, 2) := by decide +kernel
theorem dX8_mixedSet_108 : decode cX8_mixedSet 108 = .ok (.aload_n 0, 1) := by decide +kernel
theorem dX8_mixedSet_109 : decode cX8_mixedSet 109 = .ok (.aload_n 3, 1) := by decide +kernel
theorem dX8_mixedSet_110 : decode cX8_mixedSet 110 = .ok (.invokevirtual 182, 3) := by decide +kernel
theorem dX8_mixedSet_113 : decode cX8_mixedSet 113 = .ok (.i2l, 1) := by decide +kernel
theorem dX8_mixedSet_114 : decode cX8_mixedSet 114 = .ok (.invokestatic 272, 3) := by decide +kernel
theorem dX8_mixedSet_117 : decode cX8_mixedSet 117 = .ok (.lstore 5, 2) := by decide +kernel
theorem dX8_mixedSet_119 : decode cX8_mixedSet 119 = .ok (.lload 5, 2) := by decide +kernel
theorem dX8_mixedSet_121 : decode cX8_mixedSet 121 = .ok (.aload_n 0, 1) := by decide +kernel
theorem dX8_mixedSet_122 : decode cX8_mixedSet 122 = .ok (.aload_n 3, 1) := by decide +kernel
theorem dX8_mixedSet_123 : decode cX8_mixedSet 123 = .ok (.invokevirtual 206, 3) := by decide +kernel
theorem dX8_mixedSet_126 : decode cX8_mixedSet 126 = .ok (.i2l, 1) := by decide +kernel
theorem dX8_mixedSet_127 : decode cX8_mixedSet 127 = .ok (.invokestatic 272, 3) := by decide +kernel
theorem dX8_mixedSet_130 : decode cX8_mixedSet 130 = .ok (.lstore 5, 2) := by decide +kernel
theorem dX8_mixedSet_132 : decode cX8_mixedSet 132 = .ok (.lload 5, 2) := by decide +kernel
theorem dX8_mixedSet_134 : decode cX8_mixedSet 134 = .ok (.lreturn, 1) := by decide +kernel
theorem dX8_mixed_0 : decode cX8_mixed 0 = .ok (.ldc2_w 280, 3) := by decide +kernel
theorem dX8_mixed_3 : decode cX8_mixed 3 = .ok (.lload_n 0, 1) := by decide +kernel
theorem dX8_mixed_4 : decode cX8_mixed 4 = .ok (.lmul, 1) := by decide +kernel
theorem dX8_mixed_5 : decode cX8_mixed 5 = .ok (.lload_n 2, 1) := by decide +kernel
theorem dX8_mixed_6 : decode cX8_mixed 6 = .ok (.ladd, 1) := by decide +kernel
theorem dX8_mixed_7 : decode cX8_mixed 7 = .ok (.lreturn, 1) := by decide +kernel
theorem dX8_needSet_0 : decode cX8_needSet 0 = .ok (.iload_n 0, 1) := by decide +kernel
theorem dX8_needSet_1 : decode cX8_needSet 1 = .ok (.ifCond .lt 8, 3) := by decide +kernel
theorem dX8_needSet_4 : decode cX8_needSet 4 = .ok (.iload_n 0, 1) := by decide +kernel
theorem dX8_needSet_5 : decode cX8_needSet 5 = .ok (.iconst 4, 1) := by decide +kernel
theorem dX8_needSet_6 : decode cX8_needSet 6 = .ok (.if_icmp .lt 14, 3) := by decide +kernel
theorem dX8_needSet_9 : decode cX8_needSet 9 = .ok (.new 128, 3) := by decide +kernel
theorem dX8_needSet_12 : decode cX8_needSet 12 = .ok (.dup, 1) := by decide +kernel
theorem dX8_needSet_13 : decode cX8_needSet 13 = .ok (.ldc_w 282, 3) := by decide +kernel
theorem dX8_needSet_16 : decode cX8_needSet 16 = .ok (.invokespecial 132, 3) := by decide +kernel
theorem dX8_needSet_19 : decode cX8_needSet 19 = .ok (.athrow, 1) := by decide +kernel
theorem dX8_needSet_20 : decode cX8_needSet 20 = .ok (.return_, 1) := by decide +kernel
theorem dX8_needBelowModulus_0 : decode cX8_needBelowModulus 0 = .ok (.aload_n 0, 1) := by decide +kernel
theorem dX8_needBelowModulus_1 : decode cX8_needBelowModulus 1 = .ok (.getfield 12, 3) := by decide +kernel
theorem dX8_needBelowModulus_4 : decode cX8_needBelowModulus 4 = .ok (.getfield 82, 3) := by decide +kernel
theorem dX8_needBelowModulus_7 : decode cX8_needBelowModulus 7 = .ok (.iload_n 1, 1) := by decide +kernel
theorem dX8_needBelowModulus_8 : decode cX8_needBelowModulus 8 = .ok (.aaload, 1) := by decide +kernel
theorem dX8_needBelowModulus_9 : decode cX8_needBelowModulus 9 = .ok (.invokevirtual 203, 3) := by decide +kernel
theorem dX8_needBelowModulus_12 : decode cX8_needBelowModulus 12 = .ok (.aload_n 0, 1) := by decide +kernel
theorem dX8_needBelowModulus_13 : decode cX8_needBelowModulus 13 = .ok (.getfield 12, 3) := by decide +kernel
theorem dX8_needBelowModulus_16 : decode cX8_needBelowModulus 16 = .ok (.getfield 108, 3) := by decide +kernel
theorem dX8_needBelowModulus_19 : decode cX8_needBelowModulus 19 = .ok (.if_icmp .lt 14, 3) := by decide +kernel
theorem dX8_needBelowModulus_22 : decode cX8_needBelowModulus 22 = .ok (.new 93, 3) := by decide +kernel
theorem dX8_needBelowModulus_25 : decode cX8_needBelowModulus 25 = .ok (.dup, 1) := by decide +kernel
theorem dX8_needBelowModulus_26 : decode cX8_needBelowModulus 26 = .ok (.ldc_w 284, 3) := by decide +kernel
theorem dX8_needBelowModulus_29 : decode cX8_needBelowModulus 29 = .ok (.invokespecial 97, 3) := by decide +kernel
theorem dX8_needBelowModulus_32 : decode cX8_needBelowModulus 32 = .ok (.athrow, 1) := by decide +kernel
theorem dX8_needBelowModulus_33 : decode cX8_needBelowModulus 33 = .ok (.return_, 1) := by decide +kernel
theorem dX8_needPrime_0 : decode cX8_needPrime 0 = .ok (.iload_n 0, 1) := by decide +kernel
theorem dX8_needPrime_1 : decode cX8_needPrime 1 = .ok (.iconst 3, 1) := by decide +kernel
theorem dX8_needPrime_2 : decode cX8_needPrime 2 = .ok (.if_icmp .lt 16, 3) := by decide +kernel
theorem dX8_needPrime_5 : decode cX8_needPrime 5 = .ok (.iload_n 0, 1) := by decide +kernel
theorem dX8_needPrime_6 : decode cX8_needPrime 6 = .ok (.bipush 23, 2) := by decide +kernel
theorem dX8_needPrime_8 : decode cX8_needPrime 8 = .ok (.if_icmp .gt 10, 3) := by decide +kernel
theorem dX8_needPrime_11 : decode cX8_needPrime 11 = .ok (.iload_n 0, 1) := by decide +kernel
theorem dX8_needPrime_12 : decode cX8_needPrime 12 = .ok (.invokestatic 286, 3) := by decide +kernel
theorem dX8_needPrime_15 : decode cX8_needPrime 15 = .ok (.ifCond .ne 14, 3) := by decide +kernel
theorem dX8_needPrime_18 : decode cX8_needPrime 18 = .ok (.new 75, 3) := by decide +kernel
theorem dX8_needPrime_21 : decode cX8_needPrime 21 = .ok (.dup, 1) := by decide +kernel
theorem dX8_needPrime_22 : decode cX8_needPrime 22 = .ok (.ldc_w 289, 3) := by decide +kernel
theorem dX8_needPrime_25 : decode cX8_needPrime 25 = .ok (.invokespecial 79, 3) := by decide +kernel
theorem dX8_needPrime_28 : decode cX8_needPrime 28 = .ok (.athrow, 1) := by decide +kernel
theorem dX8_needPrime_29 : decode cX8_needPrime 29 = .ok (.return_, 1) := by decide +kernel
theorem dX8_replace_0 : decode cX8_replace 0 = .ok (.aload_n 0, 1) := by decide +kernel
theorem dX8_replace_1 : decode cX8_replace 1 = .ok (.getfield 19, 3) := by decide +kernel
theorem dX8_replace_4 : decode cX8_replace 4 = .ok (.aload_n 0, 1) := by decide +kernel
theorem dX8_replace_5 : decode cX8_replace 5 = .ok (.getfield 12, 3) := by decide +kernel
theorem dX8_replace_8 : decode cX8_replace 8 = .ok (.invokevirtual 168, 3) := by decide +kernel
theorem dX8_replace_11 : decode cX8_replace 11 = .ok (.aload_n 0, 1) := by decide +kernel
theorem dX8_replace_12 : decode cX8_replace 12 = .ok (.getfield 12, 3) := by decide +kernel
theorem dX8_replace_15 : decode cX8_replace 15 = .ok (.getfield 82, 3) := by decide +kernel
theorem dX8_replace_18 : decode cX8_replace 18 = .ok (.iload_n 1, 1) := by decide +kernel
theorem dX8_replace_19 : decode cX8_replace 19 = .ok (.aaload, 1) := by decide +kernel
theorem dX8_replace_20 : decode cX8_replace 20 = .ok (.aload_n 0, 1) := by decide +kernel
theorem dX8_replace_21 : decode cX8_replace 21 = .ok (.getfield 26, 3) := by decide +kernel
theorem dX8_replace_24 : decode cX8_replace 24 = .ok (.invokevirtual 124, 3) := by decide +kernel
theorem dX8_replace_27 : decode cX8_replace 27 = .ok (.aload_n 0, 1) := by decide +kernel
theorem dX8_replace_28 : decode cX8_replace 28 = .ok (.getfield 12, 3) := by decide +kernel
theorem dX8_replace_31 : decode cX8_replace 31 = .ok (.iload_n 2, 1) := by decide +kernel
theorem dX8_replace_32 : decode cX8_replace 32 = .ok (.putfield 108, 3) := by decide +kernel
theorem dX8_replace_35 : decode cX8_replace 35 = .ok (.return_, 1) := by decide +kernel
theorem dX8_residue_0 : decode cX8_residue 0 = .ok (.iload_n 1, 1) := by decide +kernel
theorem dX8_residue_1 : decode cX8_residue 1 = .ok (.iconst 1, 1) := by decide +kernel
theorem dX8_residue_2 : decode cX8_residue 2 = .ok (.if_icmp .ge 5, 3) := by decide +kernel
theorem dX8_residue_5 : decode cX8_residue 5 = .ok (.iconst 0, 1) := by decide +kernel
theorem dX8_residue_6 : decode cX8_residue 6 = .ok (.ireturn, 1) := by decide +kernel
theorem dX8_residue_7 : decode cX8_residue 7 = .ok (.iload_n 0, 1) := by decide +kernel
theorem dX8_residue_8 : decode cX8_residue 8 = .ok (.iload_n 1, 1) := by decide +kernel
theorem dX8_residue_9 : decode cX8_residue 9 = .ok (.irem, 1) := by decide +kernel
theorem dX8_residue_10 : decode cX8_residue 10 = .ok (.istore_n 2, 1) := by decide +kernel
theorem dX8_residue_11 : decode cX8_residue 11 = .ok (.iload_n 2, 1) := by decide +kernel
theorem dX8_residue_12 : decode cX8_residue 12 = .ok (.ifCond .ge 9, 3) := by decide +kernel
theorem dX8_residue_15 : decode cX8_residue 15 = .ok (.iload_n 2, 1) := by decide +kernel
theorem dX8_residue_16 : decode cX8_residue 16 = .ok (.iload_n 1, 1) := by decide +kernel
theorem dX8_residue_17 : decode cX8_residue 17 = .ok (.iadd, 1) := by decide +kernel
theorem dX8_residue_18 : decode cX8_residue 18 = .ok (.goto 4, 3) := by decide +kernel
theorem dX8_residue_21 : decode cX8_residue 21 = .ok (.iload_n 2, 1) := by decide +kernel
theorem dX8_residue_22 : decode cX8_residue 22 = .ok (.ireturn, 1) := by decide +kernel
theorem dX8_quotient_0 : decode cX8_quotient 0 = .ok (.iload_n 1, 1) := by decide +kernel
theorem dX8_quotient_1 : decode cX8_quotient 1 = .ok (.iconst 1, 1) := by decide +kernel
theorem dX8_quotient_2 : decode cX8_quotient 2 = .ok (.if_icmp .ge 7, 3) := by decide +kernel
theorem dX8_quotient_5 : decode cX8_quotient 5 = .ok (.iconst 0, 1) := by decide +kernel
theorem dX8_quotient_6 : decode cX8_quotient 6 = .ok (.goto 6, 3) := by decide +kernel
theorem dX8_quotient_9 : decode cX8_quotient 9 = .ok (.iload_n 0, 1) := by decide +kernel
theorem dX8_quotient_10 : decode cX8_quotient 10 = .ok (.iload_n 1, 1) := by decide +kernel
theorem dX8_quotient_11 : decode cX8_quotient 11 = .ok (.idiv, 1) := by decide +kernel
theorem dX8_quotient_12 : decode cX8_quotient 12 = .ok (.ireturn, 1) := by decide +kernel
theorem dX8_isPrime_0 : decode cX8_isPrime 0 = .ok (.iconst 2, 1) := by decide +kernel
theorem dX8_isPrime_1 : decode cX8_isPrime 1 = .ok (.istore_n 1, 1) := by decide +kernel
theorem dX8_isPrime_2 : decode cX8_isPrime 2 = .ok (.iload_n 1, 1) := by decide +kernel
theorem dX8_isPrime_3 : decode cX8_isPrime 3 = .ok (.iload_n 0, 1) := by decide +kernel
theorem dX8_isPrime_4 : decode cX8_isPrime 4 = .ok (.if_icmp .ge 19, 3) := by decide +kernel
theorem dX8_isPrime_7 : decode cX8_isPrime 7 = .ok (.iload_n 0, 1) := by decide +kernel
theorem dX8_isPrime_8 : decode cX8_isPrime 8 = .ok (.iload_n 1, 1) := by decide +kernel
theorem dX8_isPrime_9 : decode cX8_isPrime 9 = .ok (.invokestatic 217, 3) := by decide +kernel
theorem dX8_isPrime_12 : decode cX8_isPrime 12 = .ok (.ifCond .ne 5, 3) := by decide +kernel
theorem dX8_isPrime_15 : decode cX8_isPrime 15 = .ok (.iconst 0, 1) := by decide +kernel
theorem dX8_isPrime_16 : decode cX8_isPrime 16 = .ok (.ireturn, 1) := by decide +kernel
theorem dX8_isPrime_17 : decode cX8_isPrime 17 = .ok (.iinc 1 1, 3) := by decide +kernel
theorem dX8_isPrime_20 : decode cX8_isPrime 20 = .ok (.goto (-18), 3) := by decide +kernel
theorem dX8_isPrime_23 : decode cX8_isPrime 23 = .ok (.iload_n 0, 1) := by decide +kernel
theorem dX8_isPrime_24 : decode cX8_isPrime 24 = .ok (.iconst 1, 1) := by decide +kernel
theorem dX8_isPrime_25 : decode cX8_isPrime 25 = .ok (.if_icmp .le 7, 3) := by decide +kernel
theorem dX8_isPrime_28 : decode cX8_isPrime 28 = .ok (.iconst 1, 1) := by decide +kernel
theorem dX8_isPrime_29 : decode cX8_isPrime 29 = .ok (.goto 4, 3) := by decide +kernel
theorem dX8_isPrime_32 : decode cX8_isPrime 32 = .ok (.iconst 0, 1) := by decide +kernel
theorem dX8_isPrime_33 : decode cX8_isPrime 33 = .ok (.ireturn, 1) := by decide +kernel
theorem dX8_isPrimitiveRoot_0 : decode cX8_isPrimitiveRoot 0 = .ok (.iload_n 0, 1) := by decide +kernel
theorem dX8_isPrimitiveRoot_1 : decode cX8_isPrimitiveRoot 1 = .ok (.iconst 2, 1) := by decide +kernel
theorem dX8_isPrimitiveRoot_2 : decode cX8_isPrimitiveRoot 2 = .ok (.if_icmp .lt 8, 3) := by decide +kernel
theorem dX8_isPrimitiveRoot_5 : decode cX8_isPrimitiveRoot 5 = .ok (.iload_n 0, 1) := by decide +kernel
theorem dX8_isPrimitiveRoot_6 : decode cX8_isPrimitiveRoot 6 = .ok (.iload_n 1, 1) := by decide +kernel
theorem dX8_isPrimitiveRoot_7 : decode cX8_isPrimitiveRoot 7 = .ok (.if_icmp .lt 5, 3) := by decide +kernel
theorem dX8_isPrimitiveRoot_10 : decode cX8_isPrimitiveRoot 10 = .ok (.iconst 0, 1) := by decide +kernel
theorem dX8_isPrimitiveRoot_11 : decode cX8_isPrimitiveRoot 11 = .ok (.ireturn, 1) := by decide +kernel
theorem dX8_isPrimitiveRoot_12 : decode cX8_isPrimitiveRoot 12 = .ok (.iconst 1, 1) := by decide +kernel
theorem dX8_isPrimitiveRoot_13 : decode cX8_isPrimitiveRoot 13 = .ok (.istore_n 2, 1) := by decide +kernel
theorem dX8_isPrimitiveRoot_14 : decode cX8_isPrimitiveRoot 14 = .ok (.iconst 1, 1) := by decide +kernel
theorem dX8_isPrimitiveRoot_15 : decode cX8_isPrimitiveRoot 15 = .ok (.istore_n 3, 1) := by decide +kernel
theorem dX8_isPrimitiveRoot_16 : decode cX8_isPrimitiveRoot 16 = .ok (.iload_n 3, 1) := by decide +kernel
theorem dX8_isPrimitiveRoot_17 : decode cX8_isPrimitiveRoot 17 = .ok (.iload_n 1, 1) := by decide +kernel
theorem dX8_isPrimitiveRoot_18 : decode cX8_isPrimitiveRoot 18 = .ok (.iconst 1, 1) := by decide +kernel
theorem dX8_isPrimitiveRoot_19 : decode cX8_isPrimitiveRoot 19 = .ok (.isub, 1) := by decide +kernel
theorem dX8_isPrimitiveRoot_20 : decode cX8_isPrimitiveRoot 20 = .ok (.if_icmp .ge 24, 3) := by decide +kernel
theorem dX8_isPrimitiveRoot_23 : decode cX8_isPrimitiveRoot 23 = .ok (.iload_n 2, 1) := by decide +kernel
theorem dX8_isPrimitiveRoot_24 : decode cX8_isPrimitiveRoot 24 = .ok (.iload_n 0, 1) := by decide +kernel
theorem dX8_isPrimitiveRoot_25 : decode cX8_isPrimitiveRoot 25 = .ok (.imul, 1) := by decide +kernel
theorem dX8_isPrimitiveRoot_26 : decode cX8_isPrimitiveRoot 26 = .ok (.iload_n 1, 1) := by decide +kernel
theorem dX8_isPrimitiveRoot_27 : decode cX8_isPrimitiveRoot 27 = .ok (.invokestatic 217, 3) := by decide +kernel
theorem dX8_isPrimitiveRoot_30 : decode cX8_isPrimitiveRoot 30 = .ok (.istore_n 2, 1) := by decide +kernel
theorem dX8_isPrimitiveRoot_31 : decode cX8_isPrimitiveRoot 31 = .ok (.iload_n 2, 1) := by decide +kernel
theorem dX8_isPrimitiveRoot_32 : decode cX8_isPrimitiveRoot 32 = .ok (.iconst 1, 1) := by decide +kernel
theorem dX8_isPrimitiveRoot_33 : decode cX8_isPrimitiveRoot 33 = .ok (.if_icmp .ne 5, 3) := by decide +kernel
theorem dX8_isPrimitiveRoot_36 : decode cX8_isPrimitiveRoot 36 = .ok (.iconst 0, 1) := by decide +kernel
theorem dX8_isPrimitiveRoot_37 : decode cX8_isPrimitiveRoot 37 = .ok (.ireturn, 1) := by decide +kernel
theorem dX8_isPrimitiveRoot_38 : decode cX8_isPrimitiveRoot 38 = .ok (.iinc 3 1, 3) := by decide +kernel
theorem dX8_isPrimitiveRoot_41 : decode cX8_isPrimitiveRoot 41 = .ok (.goto (-25), 3) := by decide +kernel
theorem dX8_isPrimitiveRoot_44 : decode cX8_isPrimitiveRoot 44 = .ok (.iconst 1, 1) := by decide +kernel
theorem dX8_isPrimitiveRoot_45 : decode cX8_isPrimitiveRoot 45 = .ok (.ireturn, 1) := by decide +kernel
theorem dX8_isCoprime_0 : decode cX8_isCoprime 0 = .ok (.iload_n 0, 1) := by decide +kernel
theorem dX8_isCoprime_1 : decode cX8_isCoprime 1 = .ok (.istore_n 2, 1) := by decide +kernel
theorem dX8_isCoprime_2 : decode cX8_isCoprime 2 = .ok (.iload_n 1, 1) := by decide +kernel
theorem dX8_isCoprime_3 : decode cX8_isCoprime 3 = .ok (.istore_n 3, 1) := by decide +kernel
theorem dX8_isCoprime_4 : decode cX8_isCoprime 4 = .ok (.iconst 0, 1) := by decide +kernel
theorem dX8_isCoprime_5 : decode cX8_isCoprime 5 = .ok (.istore 4, 2) := by decide +kernel
theorem dX8_isCoprime_7 : decode cX8_isCoprime 7 = .ok (.iload 4, 2) := by decide +kernel
theorem dX8_isCoprime_9 : decode cX8_isCoprime 9 = .ok (.bipush 64, 2) := by decide +kernel
theorem dX8_isCoprime_11 : decode cX8_isCoprime 11 = .ok (.if_icmp .ge 25, 3) := by decide +kernel
theorem dX8_isCoprime_14 : decode cX8_isCoprime 14 = .ok (.iload_n 3, 1) := by decide +kernel
theorem dX8_isCoprime_15 : decode cX8_isCoprime 15 = .ok (.ifCond .eq 21, 3) := by decide +kernel
theorem dX8_isCoprime_18 : decode cX8_isCoprime 18 = .ok (.iload_n 2, 1) := by decide +kernel
theorem dX8_isCoprime_19 : decode cX8_isCoprime 19 = .ok (.iload_n 3, 1) := by decide +kernel
theorem dX8_isCoprime_20 : decode cX8_isCoprime 20 = .ok (.invokestatic 217, 3) := by decide +kernel
theorem dX8_isCoprime_23 : decode cX8_isCoprime 23 = .ok (.istore 5, 2) := by decide +kernel
theorem dX8_isCoprime_25 : decode cX8_isCoprime 25 = .ok (.iload_n 3, 1) := by decide +kernel
theorem dX8_isCoprime_26 : decode cX8_isCoprime 26 = .ok (.istore_n 2, 1) := by decide +kernel
theorem dX8_isCoprime_27 : decode cX8_isCoprime 27 = .ok (.iload 5, 2) := by decide +kernel
theorem dX8_isCoprime_29 : decode cX8_isCoprime 29 = .ok (.istore_n 3, 1) := by decide +kernel
theorem dX8_isCoprime_30 : decode cX8_isCoprime 30 = .ok (.iinc 4 1, 3) := by decide +kernel
theorem dX8_isCoprime_33 : decode cX8_isCoprime 33 = .ok (.goto (-26), 3) := by decide +kernel
theorem dX8_isCoprime_36 : decode cX8_isCoprime 36 = .ok (.iload_n 2, 1) := by decide +kernel
theorem dX8_isCoprime_37 : decode cX8_isCoprime 37 = .ok (.iconst 1, 1) := by decide +kernel
theorem dX8_isCoprime_38 : decode cX8_isCoprime 38 = .ok (.if_icmp .ne 7, 3) := by decide +kernel
theorem dX8_isCoprime_41 : decode cX8_isCoprime 41 = .ok (.iconst 1, 1) := by decide +kernel
theorem dX8_isCoprime_42 : decode cX8_isCoprime 42 = .ok (.goto 4, 3) := by decide +kernel
theorem dX8_isCoprime_45 : decode cX8_isCoprime 45 = .ok (.iconst 0, 1) := by decide +kernel
theorem dX8_isCoprime_46 : decode cX8_isCoprime 46 = .ok (.ireturn, 1) := by decide +kernel
theorem dX8_measured_0 : decode cX8_measured 0 = .ok (.aload_n 0, 1) := by decide +kernel
theorem dX8_measured_1 : decode cX8_measured 1 = .ok (.getfield 52, 3) := by decide +kernel
theorem dX8_measured_4 : decode cX8_measured 4 = .ok (.iload_n 1, 1) := by decide +kernel
theorem dX8_measured_5 : decode cX8_measured 5 = .ok (.aaload, 1) := by decide +kernel
theorem dX8_measured_6 : decode cX8_measured 6 = .ok (.aload_n 0, 1) := by decide +kernel
theorem dX8_measured_7 : decode cX8_measured 7 = .ok (.getfield 12, 3) := by decide +kernel
theorem dX8_measured_10 : decode cX8_measured 10 = .ok (.getfield 82, 3) := by decide +kernel
theorem dX8_measured_13 : decode cX8_measured 13 = .ok (.iload_n 1, 1) := by decide +kernel
theorem dX8_measured_14 : decode cX8_measured 14 = .ok (.aaload, 1) := by decide +kernel
theorem dX8_measured_15 : decode cX8_measured 15 = .ok (.invokevirtual 291, 3) := by decide +kernel
theorem dX8_measured_18 : decode cX8_measured 18 = .ok (.aload_n 0, 1) := by decide +kernel
theorem dX8_measured_19 : decode cX8_measured 19 = .ok (.getfield 52, 3) := by decide +kernel
theorem dX8_measured_22 : decode cX8_measured 22 = .ok (.iload_n 1, 1) := by decide +kernel
theorem dX8_measured_23 : decode cX8_measured 23 = .ok (.aaload, 1) := by decide +kernel
theorem dX8_measured_24 : decode cX8_measured 24 = .ok (.areturn, 1) := by decide +kernel
theorem dX8_measureAll_0 : decode cX8_measureAll 0 = .ok (.iconst 0, 1) := by decide +kernel
theorem dX8_measureAll_1 : decode cX8_measureAll 1 = .ok (.istore_n 1, 1) := by decide +kernel
theorem dX8_measureAll_2 : decode cX8_measureAll 2 = .ok (.iload_n 1, 1) := by decide +kernel
theorem dX8_measureAll_3 : decode cX8_measureAll 3 = .ok (.iconst 4, 1) := by decide +kernel
theorem dX8_measureAll_4 : decode cX8_measureAll 4 = .ok (.if_icmp .ge 77, 3) := by decide +kernel
theorem dX8_measureAll_7 : decode cX8_measureAll 7 = .ok (.aload_n 0, 1) := by decide +kernel
theorem dX8_measureAll_8 : decode cX8_measureAll 8 = .ok (.iload_n 1, 1) := by decide +kernel
theorem dX8_measureAll_9 : decode cX8_measureAll 9 = .ok (.invokevirtual 142, 3) := by decide +kernel
theorem dX8_measureAll_12 : decode cX8_measureAll 12 = .ok (.astore_n 2, 1) := by decide +kernel
theorem dX8_measureAll_13 : decode cX8_measureAll 13 = .ok (.aload_n 2, 1) := by decide +kernel
theorem dX8_measureAll_14 : decode cX8_measureAll 14 = .ok (.aload_n 2, 1) := by decide +kernel
theorem dX8_measureAll_15 : decode cX8_measureAll 15 = .ok (.getfield 146, 3) := by decide +kernel
theorem dX8_measureAll_18 : decode cX8_measureAll 18 = .ok (.ifCond .eq 7, 3) := by decide +kernel
theorem dX8_measureAll_21 : decode cX8_measureAll 21 = .ok (.iconst 0, 1) := by decide +kernel
theorem dX8_measureAll_22 : decode cX8_measureAll 22 = .ok (.goto 6, 3) := by decide +kernel
theorem dX8_measureAll_25 : decode cX8_measureAll 25 = .ok (.iconst 1, 1) := by decide +kernel
theorem dX8_measureAll_26 : decode cX8_measureAll 26 = .ok (.iload_n 1, 1) := by decide +kernel
theorem dX8_measureAll_27 : decode cX8_measureAll 27 = .ok (.ishl, 1) := by decide +kernel
theorem dX8_measureAll_28 : decode cX8_measureAll 28 = .ok (.putfield 294, 3) := by decide +kernel
theorem dX8_measureAll_31 : decode cX8_measureAll 31 = .ok (.iconst 0, 1) := by decide +kernel
theorem dX8_measureAll_32 : decode cX8_measureAll 32 = .ok (.istore_n 3, 1) := by decide +kernel
theorem dX8_measureAll_33 : decode cX8_measureAll 33 = .ok (.iload_n 3, 1) := by decide +kernel
theorem dX8_measureAll_34 : decode cX8_measureAll 34 = .ok (.iload_n 1, 1) := by decide +kernel
theorem dX8_measureAll_35 : decode cX8_measureAll 35 = .ok (.if_icmp .ge 40, 3) := by decide +kernel
theorem dX8_measureAll_38 : decode cX8_measureAll 38 = .ok (.aload_n 2, 1) := by decide +kernel
theorem dX8_measureAll_39 : decode cX8_measureAll 39 = .ok (.getfield 153, 3) := by decide +kernel
theorem dX8_measureAll_42 : decode cX8_measureAll 42 = .ok (.aload_n 0, 1) := by decide +kernel
theorem dX8_measureAll_43 : decode cX8_measureAll 43 = .ok (.getfield 52, 3) := by decide +kernel
theorem dX8_measureAll_46 : decode cX8_measureAll 46 = .ok (.iload_n 3, 1) := by decide +kernel
theorem dX8_measureAll_47 : decode cX8_measureAll 47 = .ok (.aaload, 1) := by decide +kernel
theorem dX8_measureAll_48 : decode cX8_measureAll 48 = .ok (.getfield 153, 3) := by decide +kernel
theorem dX8_measureAll_51 : decode cX8_measureAll 51 = .ok (.invokevirtual 297, 3) := by decide +kernel
theorem dX8_measureAll_54 : decode cX8_measureAll 54 = .ok (.ifCond .eq 15, 3) := by decide +kernel
theorem dX8_measureAll_57 : decode cX8_measureAll 57 = .ok (.aload_n 2, 1) := by decide +kernel
theorem dX8_measureAll_58 : decode cX8_measureAll 58 = .ok (.dup, 1) := by decide +kernel
theorem dX8_measureAll_59 : decode cX8_measureAll 59 = .ok (.getfield 294, 3) := by decide +kernel
theorem dX8_measureAll_62 : decode cX8_measureAll 62 = .ok (.iconst 1, 1) := by decide +kernel
theorem dX8_measureAll_63 : decode cX8_measureAll 63 = .ok (.iload_n 3, 1) := by decide +kernel
theorem dX8_measureAll_64 : decode cX8_measureAll 64 = .ok (.ishl, 1) := by decide +kernel
theorem dX8_measureAll_65 : decode cX8_measureAll 65 = .ok (.ior, 1) := by decide +kernel
theorem dX8_measureAll_66 : decode cX8_measureAll 66 = .ok (.putfield 294, 3) := by decide +kernel
theorem dX8_measureAll_69 : decode cX8_measureAll 69 = .ok (.iinc 3 1, 3) := by decide +kernel
theorem dX8_measureAll_72 : decode cX8_measureAll 72 = .ok (.goto (-39), 3) := by decide +kernel
theorem dX8_measureAll_75 : decode cX8_measureAll 75 = .ok (.iinc 1 1, 3) := by decide +kernel
theorem dX8_measureAll_78 : decode cX8_measureAll 78 = .ok (.goto (-76), 3) := by decide +kernel
theorem dX8_measureAll_81 : decode cX8_measureAll 81 = .ok (.return_, 1) := by decide +kernel
theorem dX8_formFamily_0 : decode cX8_formFamily 0 = .ok (.iconst 0, 1) := by decide +kernel
theorem dX8_formFamily_1 : decode cX8_formFamily 1 = .ok (.istore_n 2, 1) := by decide +kernel
theorem dX8_formFamily_2 : decode cX8_formFamily 2 = .ok (.iload_n 2, 1) := by decide +kernel
theorem dX8_formFamily_3 : decode cX8_formFamily 3 = .ok (.iconst 4, 1) := by decide +kernel
theorem dX8_formFamily_4 : decode cX8_formFamily 4 = .ok (.if_icmp .ge 34, 3) := by decide +kernel
theorem dX8_formFamily_7 : decode cX8_formFamily 7 = .ok (.iload_n 1, 1) := by decide +kernel
theorem dX8_formFamily_8 : decode cX8_formFamily 8 = .ok (.iload_n 2, 1) := by decide +kernel
theorem dX8_formFamily_9 : decode cX8_formFamily 9 = .ok (.ishr, 1) := by decide +kernel
theorem dX8_formFamily_10 : decode cX8_formFamily 10 = .ok (.iconst 1, 1) := by decide +kernel
theorem dX8_formFamily_11 : decode cX8_formFamily 11 = .ok (.iand, 1) := by decide +kernel
theorem dX8_formFamily_12 : decode cX8_formFamily 12 = .ok (.iconst 1, 1) := by decide +kernel
theorem dX8_formFamily_13 : decode cX8_formFamily 13 = .ok (.if_icmp .ne 19, 3) := by decide +kernel
theorem dX8_formFamily_16 : decode cX8_formFamily 16 = .ok (.aload_n 0, 1) := by decide +kernel
theorem dX8_formFamily_17 : decode cX8_formFamily 17 = .ok (.getfield 52, 3) := by decide +kernel
theorem dX8_formFamily_20 : decode cX8_formFamily 20 = .ok (.iload_n 2, 1) := by decide +kernel
theorem dX8_formFamily_21 : decode cX8_formFamily 21 = .ok (.aaload, 1) := by decide +kernel
theorem dX8_formFamily_22 : decode cX8_formFamily 22 = .ok (.getfield 294, 3) := by decide +kernel
theorem dX8_formFamily_25 : decode cX8_formFamily 25 = .ok (.iload_n 1, 1) := by decide +kernel
theorem dX8_formFamily_26 : decode cX8_formFamily 26 = .ok (.iand, 1) := by decide +kernel
theorem dX8_formFamily_27 : decode cX8_formFamily 27 = .ok (.ifCond .eq 5, 3) := by decide +kernel
theorem dX8_formFamily_30 : decode cX8_formFamily 30 = .ok (.iconst 0, 1) := by decide +kernel
theorem dX8_formFamily_31 : decode cX8_formFamily 31 = .ok (.ireturn, 1) := by decide +kernel
theorem dX8_formFamily_32 : decode cX8_formFamily 32 = .ok (.iinc 2 1, 3) := by decide +kernel
theorem dX8_formFamily_35 : decode cX8_formFamily 35 = .ok (.goto (-33), 3) := by decide +kernel
theorem dX8_formFamily_38 : decode cX8_formFamily 38 = .ok (.iconst 1, 1) := by decide +kernel
theorem dX8_formFamily_39 : decode cX8_formFamily 39 = .ok (.ireturn, 1) := by decide +kernel
theorem dX8_indexOf_0 : decode cX8_indexOf 0 = .ok (.aload_n 1, 1) := by decide +kernel
theorem dX8_indexOf_1 : decode cX8_indexOf 1 = .ok (.getfield 98, 3) := by decide +kernel
theorem dX8_indexOf_4 : decode cX8_indexOf 4 = .ok (.iconst 2, 1) := by decide +kernel
theorem dX8_indexOf_5 : decode cX8_indexOf 5 = .ok (.if_icmp .ge 5, 3) := by decide +kernel
theorem dX8_indexOf_8 : decode cX8_indexOf 8 = .ok (.iconst (-1), 1) := by decide +kernel
theorem dX8_indexOf_9 : decode cX8_indexOf 9 = .ok (.ireturn, 1) := by decide +kernel
theorem dX8_indexOf_10 : decode cX8_indexOf 10 = .ok (.aload_n 0, 1) := by decide +kernel
theorem dX8_indexOf_11 : decode cX8_indexOf 11 = .ok (.getfield 60, 3) := by decide +kernel
theorem dX8_indexOf_14 : decode cX8_indexOf 14 = .ok (.aload_n 1, 1) := by decide +kernel
theorem dX8_indexOf_15 : decode cX8_indexOf 15 = .ok (.aload_n 0, 1) := by decide +kernel
theorem dX8_indexOf_16 : decode cX8_indexOf 16 = .ok (.getfield 12, 3) := by decide +kernel
theorem dX8_indexOf_19 : decode cX8_indexOf 19 = .ok (.getfield 108, 3) := by decide +kernel
theorem dX8_indexOf_22 : decode cX8_indexOf 22 = .ok (.invokevirtual 175, 3) := by decide +kernel
theorem dX8_indexOf_25 : decode cX8_indexOf 25 = .ok (.aload_n 0, 1) := by decide +kernel
theorem dX8_indexOf_26 : decode cX8_indexOf 26 = .ok (.getfield 60, 3) := by decide +kernel
theorem dX8_indexOf_29 : decode cX8_indexOf 29 = .ok (.aload_n 0, 1) := by decide +kernel
theorem dX8_indexOf_30 : decode cX8_indexOf 30 = .ok (.getfield 12, 3) := by decide +kernel
theorem dX8_indexOf_33 : decode cX8_indexOf 33 = .ok (.getfield 108, 3) := by decide +kernel
theorem dX8_indexOf_36 : decode cX8_indexOf 36 = .ok (.invokevirtual 301, 3) := by decide +kernel
theorem dX8_indexOf_39 : decode cX8_indexOf 39 = .ok (.ifCond .eq 14, 3) := by decide +kernel
theorem dX8_indexOf_42 : decode cX8_indexOf 42 = .ok (.aload_n 0, 1) := by decide +kernel
theorem dX8_indexOf_43 : decode cX8_indexOf 43 = .ok (.getfield 60, 3) := by decide +kernel
theorem dX8_indexOf_46 : decode cX8_indexOf 46 = .ok (.iconst 1, 1) := by decide +kernel
theorem dX8_indexOf_47 : decode cX8_indexOf 47 = .ok (.invokevirtual 304, 3) := by decide +kernel
theorem dX8_indexOf_50 : decode cX8_indexOf 50 = .ok (.goto 4, 3) := by decide +kernel
theorem dX8_indexOf_53 : decode cX8_indexOf 53 = .ok (.iconst (-1), 1) := by decide +kernel
theorem dX8_indexOf_54 : decode cX8_indexOf 54 = .ok (.ireturn, 1) := by decide +kernel
theorem dX8_turn_0 : decode cX8_turn 0 = .ok (.aload_n 0, 1) := by decide +kernel
theorem dX8_turn_1 : decode cX8_turn 1 = .ok (.getfield 46, 3) := by decide +kernel
theorem dX8_turn_4 : decode cX8_turn 4 = .ok (.invokevirtual 226, 3) := by decide +kernel
theorem dX8_turn_7 : decode cX8_turn 7 = .ok (.iconst 0, 1) := by decide +kernel
theorem dX8_turn_8 : decode cX8_turn 8 = .ok (.istore 5, 2) := by decide +kernel
theorem dX8_turn_10 : decode cX8_turn 10 = .ok (.iload 5, 2) := by decide +kernel
theorem dX8_turn_12 : decode cX8_turn 12 = .ok (.aload_n 1, 1) := by decide +kernel
theorem dX8_turn_13 : decode cX8_turn 13 = .ok (.getfield 98, 3) := by decide +kernel
theorem dX8_turn_16 : decode cX8_turn 16 = .ok (.if_icmp .ge 36, 3) := by decide +kernel
theorem dX8_turn_19 : decode cX8_turn 19 = .ok (.aload_n 0, 1) := by decide +kernel
theorem dX8_turn_20 : decode cX8_turn 20 = .ok (.getfield 46, 3) := by decide +kernel
theorem dX8_turn_23 : decode cX8_turn 23 = .ok (.iload_n 2, 1) := by decide +kernel
theorem dX8_turn_24 : decode cX8_turn 24 = .ok (.aload_n 1, 1) := by decide +kernel
theorem dX8_turn_25 : decode cX8_turn 25 = .ok (.iload 5, 2) := by decide +kernel
theorem dX8_turn_27 : decode cX8_turn 27 = .ok (.invokevirtual 90, 3) := by decide +kernel
theorem dX8_turn_30 : decode cX8_turn 30 = .ok (.imul, 1) := by decide +kernel
theorem dX8_turn_31 : decode cX8_turn 31 = .ok (.iload_n 3, 1) := by decide +kernel
theorem dX8_turn_32 : decode cX8_turn 32 = .ok (.iadd, 1) := by decide +kernel
theorem dX8_turn_33 : decode cX8_turn 33 = .ok (.aload_n 0, 1) := by decide +kernel
theorem dX8_turn_34 : decode cX8_turn 34 = .ok (.getfield 12, 3) := by decide +kernel
theorem dX8_turn_37 : decode cX8_turn 37 = .ok (.getfield 108, 3) := by decide +kernel
theorem dX8_turn_40 : decode cX8_turn 40 = .ok (.invokestatic 217, 3) := by decide +kernel
theorem dX8_turn_43 : decode cX8_turn 43 = .ok (.invokevirtual 229, 3) := by decide +kernel
theorem dX8_turn_46 : decode cX8_turn 46 = .ok (.iinc 5 1, 3) := by decide +kernel
theorem dX8_turn_49 : decode cX8_turn 49 = .ok (.goto (-39), 3) := by decide +kernel
theorem dX8_turn_52 : decode cX8_turn 52 = .ok (.aload_n 0, 1) := by decide +kernel
theorem dX8_turn_53 : decode cX8_turn 53 = .ok (.getfield 46, 3) := by decide +kernel
theorem dX8_turn_56 : decode cX8_turn 56 = .ok (.aload 4, 2) := by decide +kernel
theorem dX8_turn_58 : decode cX8_turn 58 = .ok (.invokevirtual 232, 3) := by decide +kernel
theorem dX8_turn_61 : decode cX8_turn 61 = .ok (.return_, 1) := by decide +kernel
theorem dX8_countMultipliers_0 : decode cX8_countMultipliers 0 = .ok (.aload_n 0, 1) := by decide +kernel
theorem dX8_countMultipliers_1 : decode cX8_countMultipliers 1 = .ok (.getfield 67, 3) := by decide +kernel
theorem dX8_countMultipliers_4 : decode cX8_countMultipliers 4 = .ok (.aload_n 0, 1) := by decide +kernel
theorem dX8_countMultipliers_5 : decode cX8_countMultipliers 5 = .ok (.getfield 12, 3) := by decide +kernel
theorem dX8_countMultipliers_8 : decode cX8_countMultipliers 8 = .ok (.getfield 108, 3) := by decide +kernel
theorem dX8_countMultipliers_11 : decode cX8_countMultipliers 11 = .ok (.invokevirtual 307, 3) := by decide +kernel
theorem dX8_countMultipliers_14 : decode cX8_countMultipliers 14 = .ok (.aload_n 1, 1) := by decide +kernel
theorem dX8_countMultipliers_15 : decode cX8_countMultipliers 15 = .ok (.getfield 98, 3) := by decide +kernel
theorem dX8_countMultipliers_18 : decode cX8_countMultipliers 18 = .ok (.iconst 2, 1) := by decide +kernel
theorem dX8_countMultipliers_19 : decode cX8_countMultipliers 19 = .ok (.if_icmp .ge 11, 3) := by decide +kernel
theorem dX8_countMultipliers_22 : decode cX8_countMultipliers 22 = .ok (.aload_n 0, 1) := by decide +kernel
theorem dX8_countMultipliers_23 : decode cX8_countMultipliers 23 = .ok (.getfield 67, 3) := by decide +kernel
theorem dX8_countMultipliers_26 : decode cX8_countMultipliers 26 = .ok (.getfield 310, 3) := by decide +kernel
theorem dX8_countMultipliers_29 : decode cX8_countMultipliers 29 = .ok (.ireturn, 1) := by decide +kernel
theorem dX8_countMultipliers_30 : decode cX8_countMultipliers 30 = .ok (.aload_n 0, 1) := by decide +kernel
theorem dX8_countMultipliers_31 : decode cX8_countMultipliers 31 = .ok (.getfield 60, 3) := by decide +kernel
theorem dX8_countMultipliers_34 : decode cX8_countMultipliers 34 = .ok (.aload_n 1, 1) := by decide +kernel
theorem dX8_countMultipliers_35 : decode cX8_countMultipliers 35 = .ok (.aload_n 0, 1) := by decide +kernel
theorem dX8_countMultipliers_36 : decode cX8_countMultipliers 36 = .ok (.getfield 12, 3) := by decide +kernel
theorem dX8_countMultipliers_39 : decode cX8_countMultipliers 39 = .ok (.getfield 108, 3) := by decide +kernel
theorem dX8_countMultipliers_42 : decode cX8_countMultipliers 42 = .ok (.invokevirtual 175, 3) := by decide +kernel
theorem dX8_countMultipliers_45 : decode cX8_countMultipliers 45 = .ok (.aload_n 0, 1) := by decide +kernel
theorem dX8_countMultipliers_46 : decode cX8_countMultipliers 46 = .ok (.getfield 46, 3) := by decide +kernel
theorem dX8_countMultipliers_49 : decode cX8_countMultipliers 49 = .ok (.aload_n 1, 1) := by decide +kernel
theorem dX8_countMultipliers_50 : decode cX8_countMultipliers 50 = .ok (.invokevirtual 194, 3) := by decide +kernel
theorem dX8_countMultipliers_53 : decode cX8_countMultipliers 53 = .ok (.iconst 0, 1) := by decide +kernel
theorem dX8_countMultipliers_54 : decode cX8_countMultipliers 54 = .ok (.istore_n 2, 1) := by decide +kernel
theorem dX8_countMultipliers_55 : decode cX8_countMultipliers 55 = .ok (.iconst 0, 1) := by decide +kernel
theorem dX8_countMultipliers_56 : decode cX8_countMultipliers 56 = .ok (.istore_n 3, 1) := by decide +kernel
theorem dX8_countMultipliers_57 : decode cX8_countMultipliers 57 = .ok (.iload_n 3, 1) := by decide +kernel
theorem dX8_countMultipliers_58 : decode cX8_countMultipliers 58 = .ok (.aload_n 0, 1) := by decide +kernel
theorem dX8_countMultipliers_59 : decode cX8_countMultipliers 59 = .ok (.getfield 67, 3) := by decide +kernel
theorem dX8_countMultipliers_62 : decode cX8_countMultipliers 62 = .ok (.getfield 310, 3) := by decide +kernel
theorem dX8_countMultipliers_65 : decode cX8_countMultipliers 65 = .ok (.if_icmp .ge 42, 3) := by decide +kernel
theorem dX8_countMultipliers_68 : decode cX8_countMultipliers 68 = .ok (.aload_n 0, 1) := by decide +kernel
theorem dX8_countMultipliers_69 : decode cX8_countMultipliers 69 = .ok (.getfield 67, 3) := by decide +kernel
theorem dX8_countMultipliers_72 : decode cX8_countMultipliers 72 = .ok (.iload_n 3, 1) := by decide +kernel
theorem dX8_countMultipliers_73 : decode cX8_countMultipliers 73 = .ok (.invokevirtual 311, 3) := by decide +kernel
theorem dX8_countMultipliers_76 : decode cX8_countMultipliers 76 = .ok (.istore 4, 2) := by decide +kernel
theorem dX8_countMultipliers_78 : decode cX8_countMultipliers 78 = .ok (.aload_n 0, 1) := by decide +kernel
theorem dX8_countMultipliers_79 : decode cX8_countMultipliers 79 = .ok (.aload_n 1, 1) := by decide +kernel
theorem dX8_countMultipliers_80 : decode cX8_countMultipliers 80 = .ok (.iload 4, 2) := by decide +kernel
theorem dX8_countMultipliers_82 : decode cX8_countMultipliers 82 = .ok (.invokevirtual 312, 3) := by decide +kernel
theorem dX8_countMultipliers_85 : decode cX8_countMultipliers 85 = .ok (.ifCond .eq 16, 3) := by decide +kernel
theorem dX8_countMultipliers_88 : decode cX8_countMultipliers 88 = .ok (.aload_n 0, 1) := by decide +kernel
theorem dX8_countMultipliers_89 : decode cX8_countMultipliers 89 = .ok (.aload_n 1, 1) := by decide +kernel
theorem dX8_countMultipliers_90 : decode cX8_countMultipliers 90 = .ok (.iload 4, 2) := by decide +kernel
theorem dX8_countMultipliers_92 : decode cX8_countMultipliers 92 = .ok (.invokevirtual 316, 3) := by decide +kernel
theorem dX8_countMultipliers_95 : decode cX8_countMultipliers 95 = .ok (.ifCond .eq 6, 3) := by decide +kernel
theorem dX8_countMultipliers_98 : decode cX8_countMultipliers 98 = .ok (.iinc 2 1, 3) := by decide +kernel
theorem dX8_countMultipliers_101 : decode cX8_countMultipliers 101 = .ok (.iinc 3 1, 3) := by decide +kernel
theorem dX8_countMultipliers_104 : decode cX8_countMultipliers 104 = .ok (.goto (-47), 3) := by decide +kernel
theorem dX8_countMultipliers_107 : decode cX8_countMultipliers 107 = .ok (.iload_n 2, 1) := by decide +kernel
theorem dX8_countMultipliers_108 : decode cX8_countMultipliers 108 = .ok (.ireturn, 1) := by decide +kernel
theorem dX8_keepsTally_0 : decode cX8_keepsTally 0 = .ok (.iconst 1, 1) := by decide +kernel
theorem dX8_keepsTally_1 : decode cX8_keepsTally 1 = .ok (.istore_n 3, 1) := by decide +kernel
theorem dX8_keepsTally_2 : decode cX8_keepsTally 2 = .ok (.iload_n 3, 1) := by decide +kernel
theorem dX8_keepsTally_3 : decode cX8_keepsTally 3 = .ok (.aload_n 1, 1) := by decide +kernel
theorem dX8_keepsTally_4 : decode cX8_keepsTally 4 = .ok (.getfield 98, 3) := by decide +kernel
theorem dX8_keepsTally_7 : decode cX8_keepsTally 7 = .ok (.if_icmp .ge 57, 3) := by decide +kernel
theorem dX8_keepsTally_10 : decode cX8_keepsTally 10 = .ok (.aload_n 1, 1) := by decide +kernel
theorem dX8_keepsTally_11 : decode cX8_keepsTally 11 = .ok (.iload_n 3, 1) := by decide +kernel
theorem dX8_keepsTally_12 : decode cX8_keepsTally 12 = .ok (.invokevirtual 90, 3) := by decide +kernel
theorem dX8_keepsTally_15 : decode cX8_keepsTally 15 = .ok (.aload_n 1, 1) := by decide +kernel
theorem dX8_keepsTally_16 : decode cX8_keepsTally 16 = .ok (.iconst 0, 1) := by decide +kernel
theorem dX8_keepsTally_17 : decode cX8_keepsTally 17 = .ok (.invokevirtual 90, 3) := by decide +kernel
theorem dX8_keepsTally_20 : decode cX8_keepsTally 20 = .ok (.isub, 1) := by decide +kernel
theorem dX8_keepsTally_21 : decode cX8_keepsTally 21 = .ok (.istore 4, 2) := by decide +kernel
theorem dX8_keepsTally_23 : decode cX8_keepsTally 23 = .ok (.aload_n 0, 1) := by decide +kernel
theorem dX8_keepsTally_24 : decode cX8_keepsTally 24 = .ok (.getfield 60, 3) := by decide +kernel
theorem dX8_keepsTally_27 : decode cX8_keepsTally 27 = .ok (.iload_n 2, 1) := by decide +kernel
theorem dX8_keepsTally_28 : decode cX8_keepsTally 28 = .ok (.iload 4, 2) := by decide +kernel
theorem dX8_keepsTally_30 : decode cX8_keepsTally 30 = .ok (.imul, 1) := by decide +kernel
theorem dX8_keepsTally_31 : decode cX8_keepsTally 31 = .ok (.aload_n 0, 1) := by decide +kernel
theorem dX8_keepsTally_32 : decode cX8_keepsTally 32 = .ok (.getfield 12, 3) := by decide +kernel
theorem dX8_keepsTally_35 : decode cX8_keepsTally 35 = .ok (.getfield 108, 3) := by decide +kernel
theorem dX8_keepsTally_38 : decode cX8_keepsTally 38 = .ok (.invokestatic 217, 3) := by decide +kernel
theorem dX8_keepsTally_41 : decode cX8_keepsTally 41 = .ok (.invokevirtual 304, 3) := by decide +kernel
theorem dX8_keepsTally_44 : decode cX8_keepsTally 44 = .ok (.aload_n 0, 1) := by decide +kernel
theorem dX8_keepsTally_45 : decode cX8_keepsTally 45 = .ok (.getfield 60, 3) := by decide +kernel
theorem dX8_keepsTally_48 : decode cX8_keepsTally 48 = .ok (.iload 4, 2) := by decide +kernel
theorem dX8_keepsTally_50 : decode cX8_keepsTally 50 = .ok (.invokevirtual 304, 3) := by decide +kernel
theorem dX8_keepsTally_53 : decode cX8_keepsTally 53 = .ok (.if_icmp .eq 5, 3) := by decide +kernel
theorem dX8_keepsTally_56 : decode cX8_keepsTally 56 = .ok (.iconst 0, 1) := by decide +kernel
theorem dX8_keepsTally_57 : decode cX8_keepsTally 57 = .ok (.ireturn, 1) := by decide +kernel
theorem dX8_keepsTally_58 : decode cX8_keepsTally 58 = .ok (.iinc 3 1, 3) := by decide +kernel
theorem dX8_keepsTally_61 : decode cX8_keepsTally 61 = .ok (.goto (-59), 3) := by decide +kernel
theorem dX8_keepsTally_64 : decode cX8_keepsTally 64 = .ok (.iconst 1, 1) := by decide +kernel
theorem dX8_keepsTally_65 : decode cX8_keepsTally 65 = .ok (.ireturn, 1) := by decide +kernel
theorem dX8_turnsIntoShift_0 : decode cX8_turnsIntoShift 0 = .ok (.iconst 0, 1) := by decide +kernel
theorem dX8_turnsIntoShift_1 : decode cX8_turnsIntoShift 1 = .ok (.istore_n 3, 1) := by decide +kernel
theorem dX8_turnsIntoShift_2 : decode cX8_turnsIntoShift 2 = .ok (.iload_n 3, 1) := by decide +kernel
theorem dX8_turnsIntoShift_3 : decode cX8_turnsIntoShift 3 = .ok (.aload_n 1, 1) := by decide +kernel
theorem dX8_turnsIntoShift_4 : decode cX8_turnsIntoShift 4 = .ok (.getfield 98, 3) := by decide +kernel
theorem dX8_turnsIntoShift_7 : decode cX8_turnsIntoShift 7 = .ok (.if_icmp .ge 33, 3) := by decide +kernel
theorem dX8_turnsIntoShift_10 : decode cX8_turnsIntoShift 10 = .ok (.aload_n 0, 1) := by decide +kernel
theorem dX8_turnsIntoShift_11 : decode cX8_turnsIntoShift 11 = .ok (.aload_n 1, 1) := by decide +kernel
theorem dX8_turnsIntoShift_12 : decode cX8_turnsIntoShift 12 = .ok (.iload_n 2, 1) := by decide +kernel
theorem dX8_turnsIntoShift_13 : decode cX8_turnsIntoShift 13 = .ok (.iload_n 2, 1) := by decide +kernel
theorem dX8_turnsIntoShift_14 : decode cX8_turnsIntoShift 14 = .ok (.aload_n 1, 1) := by decide +kernel
theorem dX8_turnsIntoShift_15 : decode cX8_turnsIntoShift 15 = .ok (.iconst 0, 1) := by decide +kernel
theorem dX8_turnsIntoShift_16 : decode cX8_turnsIntoShift 16 = .ok (.invokevirtual 90, 3) := by decide +kernel
theorem dX8_turnsIntoShift_19 : decode cX8_turnsIntoShift 19 = .ok (.imul, 1) := by decide +kernel
theorem dX8_turnsIntoShift_20 : decode cX8_turnsIntoShift 20 = .ok (.aload_n 1, 1) := by decide +kernel
theorem dX8_turnsIntoShift_21 : decode cX8_turnsIntoShift 21 = .ok (.iload_n 3, 1) := by decide +kernel
theorem dX8_turnsIntoShift_22 : decode cX8_turnsIntoShift 22 = .ok (.invokevirtual 90, 3) := by decide +kernel
theorem dX8_turnsIntoShift_25 : decode cX8_turnsIntoShift 25 = .ok (.isub, 1) := by decide +kernel
theorem dX8_turnsIntoShift_26 : decode cX8_turnsIntoShift 26 = .ok (.invokevirtual 319, 3) := by decide +kernel
theorem dX8_turnsIntoShift_29 : decode cX8_turnsIntoShift 29 = .ok (.ifCond .eq 5, 3) := by decide +kernel
theorem dX8_turnsIntoShift_32 : decode cX8_turnsIntoShift 32 = .ok (.iconst 1, 1) := by decide +kernel
theorem dX8_turnsIntoShift_33 : decode cX8_turnsIntoShift 33 = .ok (.ireturn, 1) := by decide +kernel
theorem dX8_turnsIntoShift_34 : decode cX8_turnsIntoShift 34 = .ok (.iinc 3 1, 3) := by decide +kernel
theorem dX8_turnsIntoShift_37 : decode cX8_turnsIntoShift 37 = .ok (.goto (-35), 3) := by decide +kernel
theorem dX8_turnsIntoShift_40 : decode cX8_turnsIntoShift 40 = .ok (.iconst 0, 1) := by decide +kernel
theorem dX8_turnsIntoShift_41 : decode cX8_turnsIntoShift 41 = .ok (.ireturn, 1) := by decide +kernel
theorem dX8_isShifted_0 : decode cX8_isShifted 0 = .ok (.iconst 0, 1) := by decide +kernel
theorem dX8_isShifted_1 : decode cX8_isShifted 1 = .ok (.istore 4, 2) := by decide +kernel
theorem dX8_isShifted_3 : decode cX8_isShifted 3 = .ok (.iload 4, 2) := by decide +kernel
theorem dX8_isShifted_5 : decode cX8_isShifted 5 = .ok (.aload_n 1, 1) := by decide +kernel
theorem dX8_isShifted_6 : decode cX8_isShifted 6 = .ok (.getfield 98, 3) := by decide +kernel
theorem dX8_isShifted_9 : decode cX8_isShifted 9 = .ok (.if_icmp .ge 41, 3) := by decide +kernel
theorem dX8_isShifted_12 : decode cX8_isShifted 12 = .ok (.aload_n 0, 1) := by decide +kernel
theorem dX8_isShifted_13 : decode cX8_isShifted 13 = .ok (.getfield 46, 3) := by decide +kernel
theorem dX8_isShifted_16 : decode cX8_isShifted 16 = .ok (.iload_n 2, 1) := by decide +kernel
theorem dX8_isShifted_17 : decode cX8_isShifted 17 = .ok (.aload_n 1, 1) := by decide +kernel
theorem dX8_isShifted_18 : decode cX8_isShifted 18 = .ok (.iload 4, 2) := by decide +kernel
theorem dX8_isShifted_20 : decode cX8_isShifted 20 = .ok (.invokevirtual 90, 3) := by decide +kernel
theorem dX8_isShifted_23 : decode cX8_isShifted 23 = .ok (.imul, 1) := by decide +kernel
theorem dX8_isShifted_24 : decode cX8_isShifted 24 = .ok (.iload_n 3, 1) := by decide +kernel
theorem dX8_isShifted_25 : decode cX8_isShifted 25 = .ok (.isub, 1) := by decide +kernel
theorem dX8_isShifted_26 : decode cX8_isShifted 26 = .ok (.aload_n 0, 1) := by decide +kernel
theorem dX8_isShifted_27 : decode cX8_isShifted 27 = .ok (.getfield 12, 3) := by decide +kernel
theorem dX8_isShifted_30 : decode cX8_isShifted 30 = .ok (.getfield 108, 3) := by decide +kernel
theorem dX8_isShifted_33 : decode cX8_isShifted 33 = .ok (.invokestatic 217, 3) := by decide +kernel
theorem dX8_isShifted_36 : decode cX8_isShifted 36 = .ok (.invokevirtual 197, 3) := by decide +kernel
theorem dX8_isShifted_39 : decode cX8_isShifted 39 = .ok (.ifCond .ne 5, 3) := by decide +kernel
theorem dX8_isShifted_42 : decode cX8_isShifted 42 = .ok (.iconst 0, 1) := by decide +kernel
theorem dX8_isShifted_43 : decode cX8_isShifted 43 = .ok (.ireturn, 1) := by decide +kernel
theorem dX8_isShifted_44 : decode cX8_isShifted 44 = .ok (.iinc 4 1, 3) := by decide +kernel
theorem dX8_isShifted_47 : decode cX8_isShifted 47 = .ok (.goto (-44), 3) := by decide +kernel
theorem dX8_isShifted_50 : decode cX8_isShifted 50 = .ok (.iconst 1, 1) := by decide +kernel
theorem dX8_isShifted_51 : decode cX8_isShifted 51 = .ok (.ireturn, 1) := by decide +kernel
theorem dX8_makeCanonical_0 : decode cX8_makeCanonical 0 = .ok (.aload_n 0, 1) := by decide +kernel
theorem dX8_makeCanonical_1 : decode cX8_makeCanonical 1 = .ok (.getfield 67, 3) := by decide +kernel
theorem dX8_makeCanonical_4 : decode cX8_makeCanonical 4 = .ok (.aload_n 0, 1) := by decide +kernel
theorem dX8_makeCanonical_5 : decode cX8_makeCanonical 5 = .ok (.getfield 12, 3) := by decide +kernel
theorem dX8_makeCanonical_8 : decode cX8_makeCanonical 8 = .ok (.getfield 108, 3) := by decide +kernel
theorem dX8_makeCanonical_11 : decode cX8_makeCanonical 11 = .ok (.invokevirtual 307, 3) := by decide +kernel
theorem dX8_makeCanonical_14 : decode cX8_makeCanonical 14 = .ok (.aload_n 0, 1) := by decide +kernel
theorem dX8_makeCanonical_15 : decode cX8_makeCanonical 15 = .ok (.getfield 40, 3) := by decide +kernel
theorem dX8_makeCanonical_18 : decode cX8_makeCanonical 18 = .ok (.iconst 0, 1) := by decide +kernel
theorem dX8_makeCanonical_19 : decode cX8_makeCanonical 19 = .ok (.putfield 323, 3) := by decide +kernel
theorem dX8_makeCanonical_22 : decode cX8_makeCanonical 22 = .ok (.iconst 0, 1) := by decide +kernel
theorem dX8_makeCanonical_23 : decode cX8_makeCanonical 23 = .ok (.istore_n 2, 1) := by decide +kernel
theorem dX8_makeCanonical_24 : decode cX8_makeCanonical 24 = .ok (.iload_n 2, 1) := by decide +kernel
theorem dX8_makeCanonical_25 : decode cX8_makeCanonical 25 = .ok (.aload_n 0, 1) := by decide +kernel
theorem dX8_makeCanonical_26 : decode cX8_makeCanonical 26 = .ok (.getfield 67, 3) := by decide +kernel
theorem dX8_makeCanonical_29 : decode cX8_makeCanonical 29 = .ok (.getfield 310, 3) := by decide +kernel
theorem dX8_makeCanonical_32 : decode cX8_makeCanonical 32 = .ok (.if_icmp .ge 75, 3) := by decide +kernel
theorem dX8_makeCanonical_35 : decode cX8_makeCanonical 35 = .ok (.aload_n 0, 1) := by decide +kernel
theorem dX8_makeCanonical_36 : decode cX8_makeCanonical 36 = .ok (.getfield 67, 3) := by decide +kernel
theorem dX8_makeCanonical_39 : decode cX8_makeCanonical 39 = .ok (.iload_n 2, 1) := by decide +kernel
theorem dX8_makeCanonical_40 : decode cX8_makeCanonical 40 = .ok (.invokevirtual 311, 3) := by decide +kernel
theorem dX8_makeCanonical_43 : decode cX8_makeCanonical 43 = .ok (.istore_n 3, 1) := by decide +kernel
theorem dX8_makeCanonical_44 : decode cX8_makeCanonical 44 = .ok (.iload_n 3, 1) := by decide +kernel
theorem dX8_makeCanonical_45 : decode cX8_makeCanonical 45 = .ok (.aload_n 0, 1) := by decide +kernel
theorem dX8_makeCanonical_46 : decode cX8_makeCanonical 46 = .ok (.getfield 12, 3) := by decide +kernel
theorem dX8_makeCanonical_49 : decode cX8_makeCanonical 49 = .ok (.getfield 108, 3) := by decide +kernel
theorem dX8_makeCanonical_52 : decode cX8_makeCanonical 52 = .ok (.iload_n 3, 1) := by decide +kernel
theorem dX8_makeCanonical_53 : decode cX8_makeCanonical 53 = .ok (.isub, 1) := by decide +kernel
theorem dX8_makeCanonical_54 : decode cX8_makeCanonical 54 = .ok (.if_icmp .gt 47, 3) := by decide +kernel
theorem dX8_makeCanonical_57 : decode cX8_makeCanonical 57 = .ok (.aload_n 0, 1) := by decide +kernel
theorem dX8_makeCanonical_58 : decode cX8_makeCanonical 58 = .ok (.aload_n 1, 1) := by decide +kernel
theorem dX8_makeCanonical_59 : decode cX8_makeCanonical 59 = .ok (.iload_n 3, 1) := by decide +kernel
theorem dX8_makeCanonical_60 : decode cX8_makeCanonical 60 = .ok (.iconst 0, 1) := by decide +kernel
theorem dX8_makeCanonical_61 : decode cX8_makeCanonical 61 = .ok (.aload_n 0, 1) := by decide +kernel
theorem dX8_makeCanonical_62 : decode cX8_makeCanonical 62 = .ok (.getfield 30, 3) := by decide +kernel
theorem dX8_makeCanonical_65 : decode cX8_makeCanonical 65 = .ok (.invokevirtual 188, 3) := by decide +kernel
theorem dX8_makeCanonical_68 : decode cX8_makeCanonical 68 = .ok (.aload_n 0, 1) := by decide +kernel
theorem dX8_makeCanonical_69 : decode cX8_makeCanonical 69 = .ok (.getfield 36, 3) := by decide +kernel
theorem dX8_makeCanonical_72 : decode cX8_makeCanonical 72 = .ok (.aload_n 0, 1) := by decide +kernel
theorem dX8_makeCanonical_73 : decode cX8_makeCanonical 73 = .ok (.getfield 30, 3) := by decide +kernel
theorem dX8_makeCanonical_76 : decode cX8_makeCanonical 76 = .ok (.aload_n 0, 1) := by decide +kernel
theorem dX8_makeCanonical_77 : decode cX8_makeCanonical 77 = .ok (.getfield 12, 3) := by decide +kernel
theorem dX8_makeCanonical_80 : decode cX8_makeCanonical 80 = .ok (.getfield 108, 3) := by decide +kernel
theorem dX8_makeCanonical_83 : decode cX8_makeCanonical 83 = .ok (.invokevirtual 324, 3) := by decide +kernel
theorem dX8_makeCanonical_86 : decode cX8_makeCanonical 86 = .ok (.aload_n 0, 1) := by decide +kernel
theorem dX8_makeCanonical_87 : decode cX8_makeCanonical 87 = .ok (.invokevirtual 326, 3) := by decide +kernel
theorem dX8_makeCanonical_90 : decode cX8_makeCanonical 90 = .ok (.aload_n 0, 1) := by decide +kernel
theorem dX8_makeCanonical_91 : decode cX8_makeCanonical 91 = .ok (.getfield 36, 3) := by decide +kernel
theorem dX8_makeCanonical_94 : decode cX8_makeCanonical 94 = .ok (.invokevirtual 329, 3) := by decide +kernel
theorem dX8_makeCanonical_97 : decode cX8_makeCanonical 97 = .ok (.aload_n 0, 1) := by decide +kernel
theorem dX8_makeCanonical_98 : decode cX8_makeCanonical 98 = .ok (.invokevirtual 326, 3) := by decide +kernel
theorem dX8_makeCanonical_101 : decode cX8_makeCanonical 101 = .ok (.iinc 2 1, 3) := by decide +kernel
theorem dX8_makeCanonical_104 : decode cX8_makeCanonical 104 = .ok (.goto (-80), 3) := by decide +kernel
theorem dX8_makeCanonical_107 : decode cX8_makeCanonical 107 = .ok (.aload_n 0, 1) := by decide +kernel
theorem dX8_makeCanonical_108 : decode cX8_makeCanonical 108 = .ok (.getfield 40, 3) := by decide +kernel
theorem dX8_makeCanonical_111 : decode cX8_makeCanonical 111 = .ok (.aload_n 0, 1) := by decide +kernel
theorem dX8_makeCanonical_112 : decode cX8_makeCanonical 112 = .ok (.getfield 26, 3) := by decide +kernel
theorem dX8_makeCanonical_115 : decode cX8_makeCanonical 115 = .ok (.invokevirtual 332, 3) := by decide +kernel
theorem dX8_makeCanonical_118 : decode cX8_makeCanonical 118 = .ok (.return_, 1) := by decide +kernel
theorem dX8_takeBest_0 : decode cX8_takeBest 0 = .ok (.aload_n 0, 1) := by decide +kernel
theorem dX8_takeBest_1 : decode cX8_takeBest 1 = .ok (.getfield 40, 3) := by decide +kernel
theorem dX8_takeBest_4 : decode cX8_takeBest 4 = .ok (.getfield 323, 3) := by decide +kernel
theorem dX8_takeBest_7 : decode cX8_takeBest 7 = .ok (.ifCond .ne 24, 3) := by decide +kernel
theorem dX8_takeBest_10 : decode cX8_takeBest 10 = .ok (.aload_n 0, 1) := by decide +kernel
theorem dX8_takeBest_11 : decode cX8_takeBest 11 = .ok (.getfield 40, 3) := by decide +kernel
theorem dX8_takeBest_14 : decode cX8_takeBest 14 = .ok (.aload_n 0, 1) := by decide +kernel
theorem dX8_takeBest_15 : decode cX8_takeBest 15 = .ok (.getfield 36, 3) := by decide +kernel
theorem dX8_takeBest_18 : decode cX8_takeBest 18 = .ok (.aload_n 0, 1) := by decide +kernel
theorem dX8_takeBest_19 : decode cX8_takeBest 19 = .ok (.getfield 36, 3) := by decide +kernel
theorem dX8_takeBest_22 : decode cX8_takeBest 22 = .ok (.invokevirtual 333, 3) := by decide +kernel
theorem dX8_takeBest_25 : decode cX8_takeBest 25 = .ok (.invokevirtual 336, 3) := by decide +kernel
theorem dX8_takeBest_28 : decode cX8_takeBest 28 = .ok (.goto 52, 3) := by decide +kernel
theorem dX8_takeBest_31 : decode cX8_takeBest 31 = .ok (.aload_n 0, 1) := by decide +kernel
theorem dX8_takeBest_32 : decode cX8_takeBest 32 = .ok (.getfield 36, 3) := by decide +kernel
theorem dX8_takeBest_35 : decode cX8_takeBest 35 = .ok (.aload_n 0, 1) := by decide +kernel
theorem dX8_takeBest_36 : decode cX8_takeBest 36 = .ok (.getfield 40, 3) := by decide +kernel
theorem dX8_takeBest_39 : decode cX8_takeBest 39 = .ok (.invokevirtual 340, 3) := by decide +kernel
theorem dX8_takeBest_42 : decode cX8_takeBest 42 = .ok (.ifCond .eq 38, 3) := by decide +kernel
theorem dX8_takeBest_45 : decode cX8_takeBest 45 = .ok (.aload_n 0, 1) := by decide +kernel
theorem dX8_takeBest_46 : decode cX8_takeBest 46 = .ok (.getfield 36, 3) := by decide +kernel
theorem dX8_takeBest_49 : decode cX8_takeBest 49 = .ok (.invokevirtual 333, 3) := by decide +kernel
theorem dX8_takeBest_52 : decode cX8_takeBest 52 = .ok (.istore_n 1, 1) := by decide +kernel
theorem dX8_takeBest_53 : decode cX8_takeBest 53 = .ok (.aload_n 0, 1) := by decide +kernel
theorem dX8_takeBest_54 : decode cX8_takeBest 54 = .ok (.getfield 36, 3) := by decide +kernel
theorem dX8_takeBest_57 : decode cX8_takeBest 57 = .ok (.iload_n 1, 1) := by decide +kernel
theorem dX8_takeBest_58 : decode cX8_takeBest 58 = .ok (.aload_n 0, 1) := by decide +kernel
theorem dX8_takeBest_59 : decode cX8_takeBest 59 = .ok (.getfield 40, 3) := by decide +kernel
theorem dX8_takeBest_62 : decode cX8_takeBest 62 = .ok (.invokevirtual 344, 3) := by decide +kernel
theorem dX8_takeBest_65 : decode cX8_takeBest 65 = .ok (.ifCond .eq 15, 3) := by decide +kernel
theorem dX8_takeBest_68 : decode cX8_takeBest 68 = .ok (.aload_n 0, 1) := by decide +kernel
theorem dX8_takeBest_69 : decode cX8_takeBest 69 = .ok (.getfield 40, 3) := by decide +kernel
theorem dX8_takeBest_72 : decode cX8_takeBest 72 = .ok (.aload_n 0, 1) := by decide +kernel
theorem dX8_takeBest_73 : decode cX8_takeBest 73 = .ok (.getfield 36, 3) := by decide +kernel
theorem dX8_takeBest_76 : decode cX8_takeBest 76 = .ok (.iload_n 1, 1) := by decide +kernel
theorem dX8_takeBest_77 : decode cX8_takeBest 77 = .ok (.invokevirtual 336, 3) := by decide +kernel
theorem dX8_takeBest_80 : decode cX8_takeBest 80 = .ok (.return_, 1) := by decide +kernel
theorem dX8_makeExtended_0 : decode cX8_makeExtended 0 = .ok (.aload_n 0, 1) := by decide +kernel
theorem dX8_makeExtended_1 : decode cX8_makeExtended 1 = .ok (.getfield 26, 3) := by decide +kernel
theorem dX8_makeExtended_4 : decode cX8_makeExtended 4 = .ok (.aload_n 1, 1) := by decide +kernel
theorem dX8_makeExtended_5 : decode cX8_makeExtended 5 = .ok (.invokevirtual 124, 3) := by decide +kernel
theorem dX8_makeExtended_8 : decode cX8_makeExtended 8 = .ok (.aload_n 0, 1) := by decide +kernel
theorem dX8_makeExtended_9 : decode cX8_makeExtended 9 = .ok (.getfield 26, 3) := by decide +kernel
theorem dX8_makeExtended_12 : decode cX8_makeExtended 12 = .ok (.getfield 98, 3) := by decide +kernel
theorem dX8_makeExtended_15 : decode cX8_makeExtended 15 = .ok (.ifCond .ne 11, 3) := by decide +kernel
theorem dX8_makeExtended_18 : decode cX8_makeExtended 18 = .ok (.aload_n 0, 1) := by decide +kernel
theorem dX8_makeExtended_19 : decode cX8_makeExtended 19 = .ok (.getfield 26, 3) := by decide +kernel
theorem dX8_makeExtended_22 : decode cX8_makeExtended 22 = .ok (.iconst 0, 1) := by decide +kernel
theorem dX8_makeExtended_23 : decode cX8_makeExtended 23 = .ok (.invokevirtual 200, 3) := by decide +kernel
theorem dX8_makeExtended_26 : decode cX8_makeExtended 26 = .ok (.aload_n 0, 1) := by decide +kernel
theorem dX8_makeExtended_27 : decode cX8_makeExtended 27 = .ok (.getfield 26, 3) := by decide +kernel
theorem dX8_makeExtended_30 : decode cX8_makeExtended 30 = .ok (.invokevirtual 203, 3) := by decide +kernel
theorem dX8_makeExtended_33 : decode cX8_makeExtended 33 = .ok (.iconst 1, 1) := by decide +kernel
theorem dX8_makeExtended_34 : decode cX8_makeExtended 34 = .ok (.iadd, 1) := by decide +kernel
theorem dX8_makeExtended_35 : decode cX8_makeExtended 35 = .ok (.istore 4, 2) := by decide +kernel
theorem dX8_makeExtended_37 : decode cX8_makeExtended 37 = .ok (.aload_n 0, 1) := by decide +kernel
theorem dX8_makeExtended_38 : decode cX8_makeExtended 38 = .ok (.getfield 26, 3) := by decide +kernel
theorem dX8_makeExtended_41 : decode cX8_makeExtended 41 = .ok (.getfield 98, 3) := by decide +kernel
theorem dX8_makeExtended_44 : decode cX8_makeExtended 44 = .ok (.iload_n 3, 1) := by decide +kernel
theorem dX8_makeExtended_45 : decode cX8_makeExtended 45 = .ok (.if_icmp .ge 49, 3) := by decide +kernel
theorem dX8_makeExtended_48 : decode cX8_makeExtended 48 = .ok (.iload 4, 2) := by decide +kernel
theorem dX8_makeExtended_50 : decode cX8_makeExtended 50 = .ok (.sipush 2000, 3) := by decide +kernel
theorem dX8_makeExtended_53 : decode cX8_makeExtended 53 = .ok (.if_icmp .gt 41, 3) := by decide +kernel
theorem dX8_makeExtended_56 : decode cX8_makeExtended 56 = .ok (.aload_n 2, 1) := by decide +kernel
theorem dX8_makeExtended_57 : decode cX8_makeExtended 57 = .ok (.aload_n 0, 1) := by decide +kernel
theorem dX8_makeExtended_58 : decode cX8_makeExtended 58 = .ok (.getfield 26, 3) := by decide +kernel
theorem dX8_makeExtended_61 : decode cX8_makeExtended 61 = .ok (.iload 4, 2) := by decide +kernel
theorem dX8_makeExtended_63 : decode cX8_makeExtended 63 = .ok (.invokevirtual 348, 3) := by decide +kernel
theorem dX8_makeExtended_66 : decode cX8_makeExtended 66 = .ok (.ifCond .eq 22, 3) := by decide +kernel
theorem dX8_makeExtended_69 : decode cX8_makeExtended 69 = .ok (.aload_n 2, 1) := by decide +kernel
theorem dX8_makeExtended_70 : decode cX8_makeExtended 70 = .ok (.aload_n 0, 1) := by decide +kernel
theorem dX8_makeExtended_71 : decode cX8_makeExtended 71 = .ok (.getfield 26, 3) := by decide +kernel
theorem dX8_makeExtended_74 : decode cX8_makeExtended 74 = .ok (.iload 4, 2) := by decide +kernel
theorem dX8_makeExtended_76 : decode cX8_makeExtended 76 = .ok (.invokevirtual 351, 3) := by decide +kernel
theorem dX8_makeExtended_79 : decode cX8_makeExtended 79 = .ok (.aload_n 0, 1) := by decide +kernel
theorem dX8_makeExtended_80 : decode cX8_makeExtended 80 = .ok (.getfield 26, 3) := by decide +kernel
theorem dX8_makeExtended_83 : decode cX8_makeExtended 83 = .ok (.iload 4, 2) := by decide +kernel
theorem dX8_makeExtended_85 : decode cX8_makeExtended 85 = .ok (.invokevirtual 200, 3) := by decide +kernel
theorem dX8_makeExtended_88 : decode cX8_makeExtended 88 = .ok (.iinc 4 1, 3) := by decide +kernel
theorem dX8_makeExtended_91 : decode cX8_makeExtended 91 = .ok (.goto (-54), 3) := by decide +kernel
theorem dX8_makeExtended_94 : decode cX8_makeExtended 94 = .ok (.aload_n 0, 1) := by decide +kernel
theorem dX8_makeExtended_95 : decode cX8_makeExtended 95 = .ok (.getfield 26, 3) := by decide +kernel
theorem dX8_makeExtended_98 : decode cX8_makeExtended 98 = .ok (.getfield 98, 3) := by decide +kernel
theorem dX8_makeExtended_101 : decode cX8_makeExtended 101 = .ok (.iload_n 3, 1) := by decide +kernel
theorem dX8_makeExtended_102 : decode cX8_makeExtended 102 = .ok (.if_icmp .ne 7, 3) := by decide +kernel
theorem dX8_makeExtended_105 : decode cX8_makeExtended 105 = .ok (.iconst 1, 1) := by decide +kernel
theorem dX8_makeExtended_106 : decode cX8_makeExtended 106 = .ok (.goto 4, 3) := by decide +kernel
theorem dX8_makeExtended_109 : decode cX8_makeExtended 109 = .ok (.iconst 0, 1) := by decide +kernel
theorem dX8_makeExtended_110 : decode cX8_makeExtended 110 = .ok (.ireturn, 1) := by decide +kernel
theorem dX8_makeOptimal_0 : decode cX8_makeOptimal 0 = .ok (.aload_n 0, 1) := by decide +kernel
theorem dX8_makeOptimal_1 : decode cX8_makeOptimal 1 = .ok (.getfield 26, 3) := by decide +kernel
theorem dX8_makeOptimal_4 : decode cX8_makeOptimal 4 = .ok (.invokevirtual 121, 3) := by decide +kernel
theorem dX8_makeOptimal_7 : decode cX8_makeOptimal 7 = .ok (.aload_n 0, 1) := by decide +kernel
theorem dX8_makeOptimal_8 : decode cX8_makeOptimal 8 = .ok (.getfield 26, 3) := by decide +kernel
theorem dX8_makeOptimal_11 : decode cX8_makeOptimal 11 = .ok (.iconst 0, 1) := by decide +kernel
theorem dX8_makeOptimal_12 : decode cX8_makeOptimal 12 = .ok (.invokevirtual 200, 3) := by decide +kernel
theorem dX8_makeOptimal_15 : decode cX8_makeOptimal 15 = .ok (.iload_n 1, 1) := by decide +kernel
theorem dX8_makeOptimal_16 : decode cX8_makeOptimal 16 = .ok (.iconst 2, 1) := by decide +kernel
theorem dX8_makeOptimal_17 : decode cX8_makeOptimal 17 = .ok (.if_icmp .ge 7, 3) := by decide +kernel
theorem dX8_makeOptimal_20 : decode cX8_makeOptimal 20 = .ok (.iconst 1, 1) := by decide +kernel
theorem dX8_makeOptimal_21 : decode cX8_makeOptimal 21 = .ok (.goto 4, 3) := by decide +kernel
theorem dX8_makeOptimal_24 : decode cX8_makeOptimal 24 = .ok (.iconst 0, 1) := by decide +kernel
theorem dX8_makeOptimal_25 : decode cX8_makeOptimal 25 = .ok (.istore_n 2, 1) := by decide +kernel
theorem dX8_makeOptimal_26 : decode cX8_makeOptimal 26 = .ok (.iload_n 1, 1) := by decide +kernel
theorem dX8_makeOptimal_27 : decode cX8_makeOptimal 27 = .ok (.iload_n 1, 1) := by decide +kernel
theorem dX8_makeOptimal_28 : decode cX8_makeOptimal 28 = .ok (.iconst 1, 1) := by decide +kernel
theorem dX8_makeOptimal_29 : decode cX8_makeOptimal 29 = .ok (.isub, 1) := by decide +kernel
theorem dX8_makeOptimal_30 : decode cX8_makeOptimal 30 = .ok (.imul, 1) := by decide +kernel
theorem dX8_makeOptimal_31 : decode cX8_makeOptimal 31 = .ok (.iconst 2, 1) := by decide +kernel
theorem dX8_makeOptimal_32 : decode cX8_makeOptimal 32 = .ok (.idiv, 1) := by decide +kernel
theorem dX8_makeOptimal_33 : decode cX8_makeOptimal 33 = .ok (.istore_n 3, 1) := by decide +kernel
theorem dX8_makeOptimal_34 : decode cX8_makeOptimal 34 = .ok (.iload_n 2, 1) := by decide +kernel
theorem dX8_makeOptimal_35 : decode cX8_makeOptimal 35 = .ok (.ifCond .ne 31, 3) := by decide +kernel
theorem dX8_makeOptimal_38 : decode cX8_makeOptimal 38 = .ok (.iload_n 3, 1) := by decide +kernel
theorem dX8_makeOptimal_39 : decode cX8_makeOptimal 39 = .ok (.bipush 63, 2) := by decide +kernel
theorem dX8_makeOptimal_41 : decode cX8_makeOptimal 41 = .ok (.if_icmp .gt 25, 3) := by decide +kernel
theorem dX8_makeOptimal_44 : decode cX8_makeOptimal 44 = .ok (.aload_n 0, 1) := by decide +kernel
theorem dX8_makeOptimal_45 : decode cX8_makeOptimal 45 = .ok (.getfield 26, 3) := by decide +kernel
theorem dX8_makeOptimal_48 : decode cX8_makeOptimal 48 = .ok (.iload_n 1, 1) := by decide +kernel
theorem dX8_makeOptimal_49 : decode cX8_makeOptimal 49 = .ok (.iconst 2, 1) := by decide +kernel
theorem dX8_makeOptimal_50 : decode cX8_makeOptimal 50 = .ok (.isub, 1) := by decide +kernel
theorem dX8_makeOptimal_51 : decode cX8_makeOptimal 51 = .ok (.iload_n 3, 1) := by decide +kernel
theorem dX8_makeOptimal_52 : decode cX8_makeOptimal 52 = .ok (.lconst 1, 1) := by decide +kernel
theorem dX8_makeOptimal_53 : decode cX8_makeOptimal 53 = .ok (.lconst 1, 1) := by decide +kernel
theorem dX8_makeOptimal_54 : decode cX8_makeOptimal 54 = .ok (.iload_n 3, 1) := by decide +kernel
theorem dX8_makeOptimal_55 : decode cX8_makeOptimal 55 = .ok (.lshl, 1) := by decide +kernel
theorem dX8_makeOptimal_56 : decode cX8_makeOptimal 56 = .ok (.invokestatic 354, 3) := by decide +kernel
theorem dX8_makeOptimal_59 : decode cX8_makeOptimal 59 = .ok (.istore_n 2, 1) := by decide +kernel
theorem dX8_makeOptimal_60 : decode cX8_makeOptimal 60 = .ok (.iinc 3 1, 3) := by decide +kernel
theorem dX8_makeOptimal_63 : decode cX8_makeOptimal 63 = .ok (.goto (-29), 3) := by decide +kernel
theorem dX8_makeOptimal_66 : decode cX8_makeOptimal 66 = .ok (.return_, 1) := by decide +kernel
theorem dX8_finishRuler_0 : decode cX8_finishRuler 0 = .ok (.iload_n 1, 1) := by decide +kernel
theorem dX8_finishRuler_1 : decode cX8_finishRuler 1 = .ok (.ifCond .gt 10, 3) := by decide +kernel
theorem dX8_finishRuler_4 : decode cX8_finishRuler 4 = .ok (.aload_n 0, 1) := by decide +kernel
theorem dX8_finishRuler_5 : decode cX8_finishRuler 5 = .ok (.iload_n 2, 1) := by decide +kernel
theorem dX8_finishRuler_6 : decode cX8_finishRuler 6 = .ok (.invokevirtual 200, 3) := by decide +kernel
theorem dX8_finishRuler_9 : decode cX8_finishRuler 9 = .ok (.iconst 1, 1) := by decide +kernel
theorem dX8_finishRuler_10 : decode cX8_finishRuler 10 = .ok (.ireturn, 1) := by decide +kernel
theorem dX8_finishRuler_11 : decode cX8_finishRuler 11 = .ok (.aload_n 0, 1) := by decide +kernel
theorem dX8_finishRuler_12 : decode cX8_finishRuler 12 = .ok (.invokevirtual 203, 3) := by decide +kernel
theorem dX8_finishRuler_15 : decode cX8_finishRuler 15 = .ok (.istore 7, 2) := by decide +kernel
theorem dX8_finishRuler_17 : decode cX8_finishRuler 17 = .ok (.iload_n 2, 1) := by decide +kernel
theorem dX8_finishRuler_18 : decode cX8_finishRuler 18 = .ok (.iload_n 1, 1) := by decide +kernel
theorem dX8_finishRuler_19 : decode cX8_finishRuler 19 = .ok (.iload_n 1, 1) := by decide +kernel
theorem dX8_finishRuler_20 : decode cX8_finishRuler 20 = .ok (.iconst 1, 1) := by decide +kernel
theorem dX8_finishRuler_21 : decode cX8_finishRuler 21 = .ok (.iadd, 1) := by decide +kernel
theorem dX8_finishRuler_22 : decode cX8_finishRuler 22 = .ok (.imul, 1) := by decide +kernel
theorem dX8_finishRuler_23 : decode cX8_finishRuler 23 = .ok (.iconst 2, 1) := by decide +kernel
theorem dX8_finishRuler_24 : decode cX8_finishRuler 24 = .ok (.idiv, 1) := by decide +kernel
theorem dX8_finishRuler_25 : decode cX8_finishRuler 25 = .ok (.isub, 1) := by decide +kernel
theorem dX8_finishRuler_26 : decode cX8_finishRuler 26 = .ok (.istore 8, 2) := by decide +kernel
theorem dX8_finishRuler_28 : decode cX8_finishRuler 28 = .ok (.iload 7, 2) := by decide +kernel
theorem dX8_finishRuler_30 : decode cX8_finishRuler 30 = .ok (.iconst 1, 1) := by decide +kernel
theorem dX8_finishRuler_31 : decode cX8_finishRuler 31 = .ok (.iadd, 1) := by decide +kernel
theorem dX8_finishRuler_32 : decode cX8_finishRuler 32 = .ok (.istore 9, 2) := by decide +kernel
theorem dX8_finishRuler_34 : decode cX8_finishRuler 34 = .ok (.iload 9, 2) := by decide +kernel
theorem dX8_finishRuler_36 : decode cX8_finishRuler 36 = .ok (.iload 8, 2) := by decide +kernel
theorem dX8_finishRuler_38 : decode cX8_finishRuler 38 = .ok (.if_icmp .gt 84, 3) := by decide +kernel
theorem dX8_finishRuler_41 : decode cX8_finishRuler 41 = .ok (.lload_n 3, 1) := by decide +kernel
theorem dX8_finishRuler_42 : decode cX8_finishRuler 42 = .ok (.iload 9, 2) := by decide +kernel
theorem dX8_finishRuler_44 : decode cX8_finishRuler 44 = .ok (.iload 7, 2) := by decide +kernel
theorem dX8_finishRuler_46 : decode cX8_finishRuler 46 = .ok (.isub, 1) := by decide +kernel
theorem dX8_finishRuler_47 : decode cX8_finishRuler 47 = .ok (.lshl, 1) := by decide +kernel
theorem dX8_finishRuler_48 : decode cX8_finishRuler 48 = .ok (.lstore 10, 2) := by decide +kernel
theorem dX8_finishRuler_50 : decode cX8_finishRuler 50 = .ok (.lconst 1, 1) := by decide +kernel
theorem dX8_finishRuler_51 : decode cX8_finishRuler 51 = .ok (.iload_n 2, 1) := by decide +kernel
theorem dX8_finishRuler_52 : decode cX8_finishRuler 52 = .ok (.iload 9, 2) := by decide +kernel
theorem dX8_finishRuler_54 : decode cX8_finishRuler 54 = .ok (.isub, 1) := by decide +kernel
theorem dX8_finishRuler_55 : decode cX8_finishRuler 55 = .ok (.lshl, 1) := by decide +kernel
theorem dX8_finishRuler_56 : decode cX8_finishRuler 56 = .ok (.lstore 12, 2) := by decide +kernel
theorem dX8_finishRuler_58 : decode cX8_finishRuler 58 = .ok (.lload 10, 2) := by decide +kernel
theorem dX8_finishRuler_60 : decode cX8_finishRuler 60 = .ok (.lload 12, 2) := by decide +kernel
theorem dX8_finishRuler_62 : decode cX8_finishRuler 62 = .ok (.land, 1) := by decide +kernel
theorem dX8_finishRuler_63 : decode cX8_finishRuler 63 = .ok (.lconst 0, 1) := by decide +kernel
theorem dX8_finishRuler_64 : decode cX8_finishRuler 64 = .ok (.lcmp, 1) := by decide +kernel
theorem dX8_finishRuler_65 : decode cX8_finishRuler 65 = .ok (.ifCond .ne 51, 3) := by decide +kernel
theorem dX8_finishRuler_68 : decode cX8_finishRuler 68 = .ok (.lload 10, 2) := by decide +kernel
theorem dX8_finishRuler_70 : decode cX8_finishRuler 70 = .ok (.lload 12, 2) := by decide +kernel
theorem dX8_finishRuler_72 : decode cX8_finishRuler 72 = .ok (.lor, 1) := by decide +kernel
theorem dX8_finishRuler_73 : decode cX8_finishRuler 73 = .ok (.lload 5, 2) := by decide +kernel
theorem dX8_finishRuler_75 : decode cX8_finishRuler 75 = .ok (.land, 1) := by decide +kernel
theorem dX8_finishRuler_76 : decode cX8_finishRuler 76 = .ok (.lconst 0, 1) := by decide +kernel
theorem dX8_finishRuler_77 : decode cX8_finishRuler 77 = .ok (.lcmp, 1) := by decide +kernel
theorem dX8_finishRuler_78 : decode cX8_finishRuler 78 = .ok (.ifCond .ne 38, 3) := by decide +kernel
theorem dX8_finishRuler_81 : decode cX8_finishRuler 81 = .ok (.aload_n 0, 1) := by decide +kernel
theorem dX8_finishRuler_82 : decode cX8_finishRuler 82 = .ok (.iload 9, 2) := by decide +kernel
theorem dX8_finishRuler_84 : decode cX8_finishRuler 84 = .ok (.invokevirtual 200, 3) := by decide +kernel
theorem dX8_finishRuler_87 : decode cX8_finishRuler 87 = .ok (.aload_n 0, 1) := by decide +kernel
theorem dX8_finishRuler_88 : decode cX8_finishRuler 88 = .ok (.iload_n 1, 1) := by decide +kernel
theorem dX8_finishRuler_89 : decode cX8_finishRuler 89 = .ok (.iconst 1, 1) := by decide +kernel
theorem dX8_finishRuler_90 : decode cX8_finishRuler 90 = .ok (.isub, 1) := by decide +kernel
theorem dX8_finishRuler_91 : decode cX8_finishRuler 91 = .ok (.iload_n 2, 1) := by decide +kernel
theorem dX8_finishRuler_92 : decode cX8_finishRuler 92 = .ok (.lload 10, 2) := by decide +kernel
theorem dX8_finishRuler_94 : decode cX8_finishRuler 94 = .ok (.lconst 1, 1) := by decide +kernel
theorem dX8_finishRuler_95 : decode cX8_finishRuler 95 = .ok (.lor, 1) := by decide +kernel
theorem dX8_finishRuler_96 : decode cX8_finishRuler 96 = .ok (.lload 5, 2) := by decide +kernel
theorem dX8_finishRuler_98 : decode cX8_finishRuler 98 = .ok (.lload 10, 2) := by decide +kernel
theorem dX8_finishRuler_100 : decode cX8_finishRuler 100 = .ok (.lor, 1) := by decide +kernel
theorem dX8_finishRuler_101 : decode cX8_finishRuler 101 = .ok (.lload 12, 2) := by decide +kernel
theorem dX8_finishRuler_103 : decode cX8_finishRuler 103 = .ok (.lor, 1) := by decide +kernel
theorem dX8_finishRuler_104 : decode cX8_finishRuler 104 = .ok (.invokestatic 354, 3) := by decide +kernel
theorem dX8_finishRuler_107 : decode cX8_finishRuler 107 = .ok (.ifCond .eq 5, 3) := by decide +kernel
theorem dX8_finishRuler_110 : decode cX8_finishRuler 110 = .ok (.iconst 1, 1) := by decide +kernel
theorem dX8_finishRuler_111 : decode cX8_finishRuler 111 = .ok (.ireturn, 1) := by decide +kernel
theorem dX8_finishRuler_112 : decode cX8_finishRuler 112 = .ok (.aload_n 0, 1) := by decide +kernel
theorem dX8_finishRuler_113 : decode cX8_finishRuler 113 = .ok (.invokevirtual 358, 3) := by decide +kernel
theorem dX8_finishRuler_116 : decode cX8_finishRuler 116 = .ok (.iinc 9 1, 3) := by decide +kernel
theorem dX8_finishRuler_119 : decode cX8_finishRuler 119 = .ok (.goto (-85), 3) := by decide +kernel
theorem dX8_finishRuler_122 : decode cX8_finishRuler 122 = .ok (.iconst 0, 1) := by decide +kernel
theorem dX8_finishRuler_123 : decode cX8_finishRuler 123 = .ok (.ireturn, 1) := by decide +kernel
theorem dX8_makeSparse_0 : decode cX8_makeSparse 0 = .ok (.aload_n 0, 1) := by decide +kernel
theorem dX8_makeSparse_1 : decode cX8_makeSparse 1 = .ok (.getfield 26, 3) := by decide +kernel
theorem dX8_makeSparse_4 : decode cX8_makeSparse 4 = .ok (.invokevirtual 121, 3) := by decide +kernel
theorem dX8_makeSparse_7 : decode cX8_makeSparse 7 = .ok (.aload_n 0, 1) := by decide +kernel
theorem dX8_makeSparse_8 : decode cX8_makeSparse 8 = .ok (.getfield 26, 3) := by decide +kernel
theorem dX8_makeSparse_11 : decode cX8_makeSparse 11 = .ok (.iconst 0, 1) := by decide +kernel
theorem dX8_makeSparse_12 : decode cX8_makeSparse 12 = .ok (.invokevirtual 200, 3) := by decide +kernel
theorem dX8_makeSparse_15 : decode cX8_makeSparse 15 = .ok (.iconst 0, 1) := by decide +kernel
theorem dX8_makeSparse_16 : decode cX8_makeSparse 16 = .ok (.istore_n 2, 1) := by decide +kernel
theorem dX8_makeSparse_17 : decode cX8_makeSparse 17 = .ok (.lconst 1, 1) := by decide +kernel
theorem dX8_makeSparse_18 : decode cX8_makeSparse 18 = .ok (.iload_n 1, 1) := by decide +kernel
theorem dX8_makeSparse_19 : decode cX8_makeSparse 19 = .ok (.lshl, 1) := by decide +kernel
theorem dX8_makeSparse_20 : decode cX8_makeSparse 20 = .ok (.ldc2_w 361, 3) := by decide +kernel
theorem dX8_makeSparse_23 : decode cX8_makeSparse 23 = .ok (.lsub, 1) := by decide +kernel
theorem dX8_makeSparse_24 : decode cX8_makeSparse 24 = .ok (.lstore_n 3, 1) := by decide +kernel
theorem dX8_makeSparse_25 : decode cX8_makeSparse 25 = .ok (.iconst 0, 1) := by decide +kernel
theorem dX8_makeSparse_26 : decode cX8_makeSparse 26 = .ok (.istore 5, 2) := by decide +kernel
theorem dX8_makeSparse_28 : decode cX8_makeSparse 28 = .ok (.iload_n 2, 1) := by decide +kernel
theorem dX8_makeSparse_29 : decode cX8_makeSparse 29 = .ok (.ifCond .ne 28, 3) := by decide +kernel
theorem dX8_makeSparse_32 : decode cX8_makeSparse 32 = .ok (.iload 5, 2) := by decide +kernel
theorem dX8_makeSparse_34 : decode cX8_makeSparse 34 = .ok (.iload_n 1, 1) := by decide +kernel
theorem dX8_makeSparse_35 : decode cX8_makeSparse 35 = .ok (.if_icmp .ge 22, 3) := by decide +kernel
theorem dX8_makeSparse_38 : decode cX8_makeSparse 38 = .ok (.aload_n 0, 1) := by decide +kernel
theorem dX8_makeSparse_39 : decode cX8_makeSparse 39 = .ok (.getfield 26, 3) := by decide +kernel
theorem dX8_makeSparse_42 : decode cX8_makeSparse 42 = .ok (.iload 5, 2) := by decide +kernel
theorem dX8_makeSparse_44 : decode cX8_makeSparse 44 = .ok (.iload_n 1, 1) := by decide +kernel
theorem dX8_makeSparse_45 : decode cX8_makeSparse 45 = .ok (.lconst 1, 1) := by decide +kernel
theorem dX8_makeSparse_46 : decode cX8_makeSparse 46 = .ok (.lload_n 3, 1) := by decide +kernel
theorem dX8_makeSparse_47 : decode cX8_makeSparse 47 = .ok (.invokestatic 363, 3) := by decide +kernel
theorem dX8_makeSparse_50 : decode cX8_makeSparse 50 = .ok (.istore_n 2, 1) := by decide +kernel
theorem dX8_makeSparse_51 : decode cX8_makeSparse 51 = .ok (.iinc 5 1, 3) := by decide +kernel
theorem dX8_makeSparse_54 : decode cX8_makeSparse 54 = .ok (.goto (-26), 3) := by decide +kernel
theorem dX8_makeSparse_57 : decode cX8_makeSparse 57 = .ok (.return_, 1) := by decide +kernel
theorem dX8_finishSparse_0 : decode cX8_finishSparse 0 = .ok (.iload_n 1, 1) := by decide +kernel
theorem dX8_finishSparse_1 : decode cX8_finishSparse 1 = .ok (.aload_n 0, 1) := by decide +kernel
theorem dX8_finishSparse_2 : decode cX8_finishSparse 2 = .ok (.getfield 98, 3) := by decide +kernel
theorem dX8_finishSparse_5 : decode cX8_finishSparse 5 = .ok (.iconst 1, 1) := by decide +kernel
theorem dX8_finishSparse_6 : decode cX8_finishSparse 6 = .ok (.iadd, 1) := by decide +kernel
theorem dX8_finishSparse_7 : decode cX8_finishSparse 7 = .ok (.imul, 1) := by decide +kernel
theorem dX8_finishSparse_8 : decode cX8_finishSparse 8 = .ok (.iload_n 1, 1) := by decide +kernel
theorem dX8_finishSparse_9 : decode cX8_finishSparse 9 = .ok (.iload_n 1, 1) := by decide +kernel
theorem dX8_finishSparse_10 : decode cX8_finishSparse 10 = .ok (.iconst 1, 1) := by decide +kernel
theorem dX8_finishSparse_11 : decode cX8_finishSparse 11 = .ok (.isub, 1) := by decide +kernel
theorem dX8_finishSparse_12 : decode cX8_finishSparse 12 = .ok (.imul, 1) := by decide +kernel
theorem dX8_finishSparse_13 : decode cX8_finishSparse 13 = .ok (.iconst 2, 1) := by decide +kernel
theorem dX8_finishSparse_14 : decode cX8_finishSparse 14 = .ok (.idiv, 1) := by decide +kernel
theorem dX8_finishSparse_15 : decode cX8_finishSparse 15 = .ok (.iadd, 1) := by decide +kernel
theorem dX8_finishSparse_16 : decode cX8_finishSparse 16 = .ok (.istore 7, 2) := by decide +kernel
theorem dX8_finishSparse_18 : decode cX8_finishSparse 18 = .ok (.lload 5, 2) := by decide +kernel
theorem dX8_finishSparse_20 : decode cX8_finishSparse 20 = .ok (.invokestatic 366, 3) := by decide +kernel
theorem dX8_finishSparse_23 : decode cX8_finishSparse 23 = .ok (.iload 7, 2) := by decide +kernel
theorem dX8_finishSparse_25 : decode cX8_finishSparse 25 = .ok (.if_icmp .le 5, 3) := by decide +kernel
theorem dX8_finishSparse_28 : decode cX8_finishSparse 28 = .ok (.iconst 0, 1) := by decide +kernel
theorem dX8_finishSparse_29 : decode cX8_finishSparse 29 = .ok (.ireturn, 1) := by decide +kernel
theorem dX8_finishSparse_30 : decode cX8_finishSparse 30 = .ok (.iload_n 1, 1) := by decide +kernel
theorem dX8_finishSparse_31 : decode cX8_finishSparse 31 = .ok (.ifCond .gt 10, 3) := by decide +kernel
theorem dX8_finishSparse_34 : decode cX8_finishSparse 34 = .ok (.aload_n 0, 1) := by decide +kernel
theorem dX8_finishSparse_35 : decode cX8_finishSparse 35 = .ok (.iload_n 2, 1) := by decide +kernel
theorem dX8_finishSparse_36 : decode cX8_finishSparse 36 = .ok (.invokevirtual 200, 3) := by decide +kernel
theorem dX8_finishSparse_39 : decode cX8_finishSparse 39 = .ok (.iconst 1, 1) := by decide +kernel
theorem dX8_finishSparse_40 : decode cX8_finishSparse 40 = .ok (.ireturn, 1) := by decide +kernel
theorem dX8_finishSparse_41 : decode cX8_finishSparse 41 = .ok (.aload_n 0, 1) := by decide +kernel
theorem dX8_finishSparse_42 : decode cX8_finishSparse 42 = .ok (.invokevirtual 203, 3) := by decide +kernel
theorem dX8_finishSparse_45 : decode cX8_finishSparse 45 = .ok (.istore 8, 2) := by decide +kernel
theorem dX8_finishSparse_47 : decode cX8_finishSparse 47 = .ok (.iload 8, 2) := by decide +kernel
theorem dX8_finishSparse_49 : decode cX8_finishSparse 49 = .ok (.iconst 1, 1) := by decide +kernel
theorem dX8_finishSparse_50 : decode cX8_finishSparse 50 = .ok (.iadd, 1) := by decide +kernel
theorem dX8_finishSparse_51 : decode cX8_finishSparse 51 = .ok (.istore 9, 2) := by decide +kernel
theorem dX8_finishSparse_53 : decode cX8_finishSparse 53 = .ok (.iload 9, 2) := by decide +kernel
theorem dX8_finishSparse_55 : decode cX8_finishSparse 55 = .ok (.iload_n 2, 1) := by decide +kernel
theorem dX8_finishSparse_56 : decode cX8_finishSparse 56 = .ok (.iload_n 1, 1) := by decide +kernel
theorem dX8_finishSparse_57 : decode cX8_finishSparse 57 = .ok (.isub, 1) := by decide +kernel
theorem dX8_finishSparse_58 : decode cX8_finishSparse 58 = .ok (.if_icmp .gt 65, 3) := by decide +kernel
theorem dX8_finishSparse_61 : decode cX8_finishSparse 61 = .ok (.lload_n 3, 1) := by decide +kernel
theorem dX8_finishSparse_62 : decode cX8_finishSparse 62 = .ok (.iload 9, 2) := by decide +kernel
theorem dX8_finishSparse_64 : decode cX8_finishSparse 64 = .ok (.iload 8, 2) := by decide +kernel
theorem dX8_finishSparse_66 : decode cX8_finishSparse 66 = .ok (.isub, 1) := by decide +kernel
theorem dX8_finishSparse_67 : decode cX8_finishSparse 67 = .ok (.lshl, 1) := by decide +kernel
theorem dX8_finishSparse_68 : decode cX8_finishSparse 68 = .ok (.lstore 10, 2) := by decide +kernel
theorem dX8_finishSparse_70 : decode cX8_finishSparse 70 = .ok (.lload 10, 2) := by decide +kernel
theorem dX8_finishSparse_72 : decode cX8_finishSparse 72 = .ok (.lconst 1, 1) := by decide +kernel
theorem dX8_finishSparse_73 : decode cX8_finishSparse 73 = .ok (.iload_n 2, 1) := by decide +kernel
theorem dX8_finishSparse_74 : decode cX8_finishSparse 74 = .ok (.iload 9, 2) := by decide +kernel
theorem dX8_finishSparse_76 : decode cX8_finishSparse 76 = .ok (.isub, 1) := by decide +kernel
theorem dX8_finishSparse_77 : decode cX8_finishSparse 77 = .ok (.lshl, 1) := by decide +kernel
theorem dX8_finishSparse_78 : decode cX8_finishSparse 78 = .ok (.lor, 1) := by decide +kernel
theorem dX8_finishSparse_79 : decode cX8_finishSparse 79 = .ok (.lstore 12, 2) := by decide +kernel
theorem dX8_finishSparse_81 : decode cX8_finishSparse 81 = .ok (.aload_n 0, 1) := by decide +kernel
theorem dX8_finishSparse_82 : decode cX8_finishSparse 82 = .ok (.iload 9, 2) := by decide +kernel
theorem dX8_finishSparse_84 : decode cX8_finishSparse 84 = .ok (.invokevirtual 200, 3) := by decide +kernel
theorem dX8_finishSparse_87 : decode cX8_finishSparse 87 = .ok (.aload_n 0, 1) := by decide +kernel
theorem dX8_finishSparse_88 : decode cX8_finishSparse 88 = .ok (.iload_n 1, 1) := by decide +kernel
theorem dX8_finishSparse_89 : decode cX8_finishSparse 89 = .ok (.iconst 1, 1) := by decide +kernel
theorem dX8_finishSparse_90 : decode cX8_finishSparse 90 = .ok (.isub, 1) := by decide +kernel
theorem dX8_finishSparse_91 : decode cX8_finishSparse 91 = .ok (.iload_n 2, 1) := by decide +kernel
theorem dX8_finishSparse_92 : decode cX8_finishSparse 92 = .ok (.lload 10, 2) := by decide +kernel
theorem dX8_finishSparse_94 : decode cX8_finishSparse 94 = .ok (.lconst 1, 1) := by decide +kernel
theorem dX8_finishSparse_95 : decode cX8_finishSparse 95 = .ok (.lor, 1) := by decide +kernel
theorem dX8_finishSparse_96 : decode cX8_finishSparse 96 = .ok (.lload 5, 2) := by decide +kernel
theorem dX8_finishSparse_98 : decode cX8_finishSparse 98 = .ok (.lload 12, 2) := by decide +kernel
theorem dX8_finishSparse_100 : decode cX8_finishSparse 100 = .ok (.ldc2_w 372, 3) := by decide +kernel
theorem dX8_finishSparse_103 : decode cX8_finishSparse 103 = .ok (.lxor, 1) := by decide +kernel
theorem dX8_finishSparse_104 : decode cX8_finishSparse 104 = .ok (.land, 1) := by decide +kernel
theorem dX8_finishSparse_105 : decode cX8_finishSparse 105 = .ok (.invokestatic 363, 3) := by decide +kernel
theorem dX8_finishSparse_108 : decode cX8_finishSparse 108 = .ok (.ifCond .eq 5, 3) := by decide +kernel
theorem dX8_finishSparse_111 : decode cX8_finishSparse 111 = .ok (.iconst 1, 1) := by decide +kernel
theorem dX8_finishSparse_112 : decode cX8_finishSparse 112 = .ok (.ireturn, 1) := by decide +kernel
theorem dX8_finishSparse_113 : decode cX8_finishSparse 113 = .ok (.aload_n 0, 1) := by decide +kernel
theorem dX8_finishSparse_114 : decode cX8_finishSparse 114 = .ok (.invokevirtual 358, 3) := by decide +kernel
theorem dX8_finishSparse_117 : decode cX8_finishSparse 117 = .ok (.iinc 9 1, 3) := by decide +kernel
theorem dX8_finishSparse_120 : decode cX8_finishSparse 120 = .ok (.goto (-67), 3) := by decide +kernel
theorem dX8_finishSparse_123 : decode cX8_finishSparse 123 = .ok (.iconst 0, 1) := by decide +kernel
theorem dX8_finishSparse_124 : decode cX8_finishSparse 124 = .ok (.ireturn, 1) := by decide +kernel
theorem dX8_makeDifferenceSet_0 : decode cX8_makeDifferenceSet 0 = .ok (.aload_n 0, 1) := by decide +kernel
theorem dX8_makeDifferenceSet_1 : decode cX8_makeDifferenceSet 1 = .ok (.getfield 26, 3) := by decide +kernel
theorem dX8_makeDifferenceSet_4 : decode cX8_makeDifferenceSet 4 = .ok (.invokevirtual 121, 3) := by decide +kernel
theorem dX8_makeDifferenceSet_7 : decode cX8_makeDifferenceSet 7 = .ok (.aload_n 0, 1) := by decide +kernel
theorem dX8_makeDifferenceSet_8 : decode cX8_makeDifferenceSet 8 = .ok (.getfield 26, 3) := by decide +kernel
theorem dX8_makeDifferenceSet_11 : decode cX8_makeDifferenceSet 11 = .ok (.iconst 0, 1) := by decide +kernel
theorem dX8_makeDifferenceSet_12 : decode cX8_makeDifferenceSet 12 = .ok (.invokevirtual 200, 3) := by decide +kernel
theorem dX8_makeDifferenceSet_15 : decode cX8_makeDifferenceSet 15 = .ok (.aload_n 0, 1) := by decide +kernel
theorem dX8_makeDifferenceSet_16 : decode cX8_makeDifferenceSet 16 = .ok (.getfield 60, 3) := by decide +kernel
theorem dX8_makeDifferenceSet_19 : decode cX8_makeDifferenceSet 19 = .ok (.invokevirtual 374, 3) := by decide +kernel
theorem dX8_makeDifferenceSet_22 : decode cX8_makeDifferenceSet 22 = .ok (.aload_n 0, 1) := by decide +kernel
theorem dX8_makeDifferenceSet_23 : decode cX8_makeDifferenceSet 23 = .ok (.getfield 60, 3) := by decide +kernel
theorem dX8_makeDifferenceSet_26 : decode cX8_makeDifferenceSet 26 = .ok (.aload_n 0, 1) := by decide +kernel
theorem dX8_makeDifferenceSet_27 : decode cX8_makeDifferenceSet 27 = .ok (.getfield 26, 3) := by decide +kernel
theorem dX8_makeDifferenceSet_30 : decode cX8_makeDifferenceSet 30 = .ok (.iconst 1, 1) := by decide +kernel
theorem dX8_makeDifferenceSet_31 : decode cX8_makeDifferenceSet 31 = .ok (.iload_n 1, 1) := by decide +kernel
theorem dX8_makeDifferenceSet_32 : decode cX8_makeDifferenceSet 32 = .ok (.iconst 1, 1) := by decide +kernel
theorem dX8_makeDifferenceSet_33 : decode cX8_makeDifferenceSet 33 = .ok (.invokevirtual 375, 3) := by decide +kernel
theorem dX8_makeDifferenceSet_36 : decode cX8_makeDifferenceSet 36 = .ok (.pop, 1) := by decide +kernel
theorem dX8_makeDifferenceSet_37 : decode cX8_makeDifferenceSet 37 = .ok (.aload_n 0, 1) := by decide +kernel
theorem dX8_makeDifferenceSet_38 : decode cX8_makeDifferenceSet 38 = .ok (.getfield 26, 3) := by decide +kernel
theorem dX8_makeDifferenceSet_41 : decode cX8_makeDifferenceSet 41 = .ok (.iconst 1, 1) := by decide +kernel
theorem dX8_makeDifferenceSet_42 : decode cX8_makeDifferenceSet 42 = .ok (.invokevirtual 200, 3) := by decide +kernel
theorem dX8_makeDifferenceSet_45 : decode cX8_makeDifferenceSet 45 = .ok (.aload_n 0, 1) := by decide +kernel
theorem dX8_makeDifferenceSet_46 : decode cX8_makeDifferenceSet 46 = .ok (.getfield 26, 3) := by decide +kernel
theorem dX8_makeDifferenceSet_49 : decode cX8_makeDifferenceSet 49 = .ok (.aload_n 0, 1) := by decide +kernel
theorem dX8_makeDifferenceSet_50 : decode cX8_makeDifferenceSet 50 = .ok (.getfield 60, 3) := by decide +kernel
theorem dX8_makeDifferenceSet_53 : decode cX8_makeDifferenceSet 53 = .ok (.iload_n 2, 1) := by decide +kernel
theorem dX8_makeDifferenceSet_54 : decode cX8_makeDifferenceSet 54 = .ok (.iconst 2, 1) := by decide +kernel
theorem dX8_makeDifferenceSet_55 : decode cX8_makeDifferenceSet 55 = .ok (.isub, 1) := by decide +kernel
theorem dX8_makeDifferenceSet_56 : decode cX8_makeDifferenceSet 56 = .ok (.iload_n 1, 1) := by decide +kernel
theorem dX8_makeDifferenceSet_57 : decode cX8_makeDifferenceSet 57 = .ok (.iload_n 3, 1) := by decide +kernel
theorem dX8_makeDifferenceSet_58 : decode cX8_makeDifferenceSet 58 = .ok (.invokestatic 379, 3) := by decide +kernel
theorem dX8_makeDifferenceSet_61 : decode cX8_makeDifferenceSet 61 = .ok (.ireturn, 1) := by decide +kernel
theorem dX8_finishDifferenceSet_0 : decode cX8_finishDifferenceSet 0 = .ok (.iload_n 2, 1) := by decide +kernel
theorem dX8_finishDifferenceSet_1 : decode cX8_finishDifferenceSet 1 = .ok (.ifCond .gt 5, 3) := by decide +kernel
theorem dX8_finishDifferenceSet_4 : decode cX8_finishDifferenceSet 4 = .ok (.iconst 1, 1) := by decide +kernel
theorem dX8_finishDifferenceSet_5 : decode cX8_finishDifferenceSet 5 = .ok (.ireturn, 1) := by decide +kernel
theorem dX8_finishDifferenceSet_6 : decode cX8_finishDifferenceSet 6 = .ok (.aload_n 0, 1) := by decide +kernel
theorem dX8_finishDifferenceSet_7 : decode cX8_finishDifferenceSet 7 = .ok (.invokevirtual 203, 3) := by decide +kernel
theorem dX8_finishDifferenceSet_10 : decode cX8_finishDifferenceSet 10 = .ok (.iconst 1, 1) := by decide +kernel
theorem dX8_finishDifferenceSet_11 : decode cX8_finishDifferenceSet 11 = .ok (.iadd, 1) := by decide +kernel
theorem dX8_finishDifferenceSet_12 : decode cX8_finishDifferenceSet 12 = .ok (.istore 5, 2) := by decide +kernel
theorem dX8_finishDifferenceSet_14 : decode cX8_finishDifferenceSet 14 = .ok (.iload 5, 2) := by decide +kernel
theorem dX8_finishDifferenceSet_16 : decode cX8_finishDifferenceSet 16 = .ok (.iload_n 3, 1) := by decide +kernel
theorem dX8_finishDifferenceSet_17 : decode cX8_finishDifferenceSet 17 = .ok (.iload_n 2, 1) := by decide +kernel
theorem dX8_finishDifferenceSet_18 : decode cX8_finishDifferenceSet 18 = .ok (.isub, 1) := by decide +kernel
theorem dX8_finishDifferenceSet_19 : decode cX8_finishDifferenceSet 19 = .ok (.if_icmp .gt 59, 3) := by decide +kernel
theorem dX8_finishDifferenceSet_22 : decode cX8_finishDifferenceSet 22 = .ok (.aload_n 1, 1) := by decide +kernel
theorem dX8_finishDifferenceSet_23 : decode cX8_finishDifferenceSet 23 = .ok (.aload_n 0, 1) := by decide +kernel
theorem dX8_finishDifferenceSet_24 : decode cX8_finishDifferenceSet 24 = .ok (.iload 5, 2) := by decide +kernel
theorem dX8_finishDifferenceSet_26 : decode cX8_finishDifferenceSet 26 = .ok (.iload_n 3, 1) := by decide +kernel
theorem dX8_finishDifferenceSet_27 : decode cX8_finishDifferenceSet 27 = .ok (.iconst 1, 1) := by decide +kernel
theorem dX8_finishDifferenceSet_28 : decode cX8_finishDifferenceSet 28 = .ok (.invokevirtual 375, 3) := by decide +kernel
theorem dX8_finishDifferenceSet_31 : decode cX8_finishDifferenceSet 31 = .ok (.iload 4, 2) := by decide +kernel
theorem dX8_finishDifferenceSet_33 : decode cX8_finishDifferenceSet 33 = .ok (.if_icmp .gt 29, 3) := by decide +kernel
theorem dX8_finishDifferenceSet_36 : decode cX8_finishDifferenceSet 36 = .ok (.aload_n 0, 1) := by decide +kernel
theorem dX8_finishDifferenceSet_37 : decode cX8_finishDifferenceSet 37 = .ok (.iload 5, 2) := by decide +kernel
theorem dX8_finishDifferenceSet_39 : decode cX8_finishDifferenceSet 39 = .ok (.invokevirtual 200, 3) := by decide +kernel
theorem dX8_finishDifferenceSet_42 : decode cX8_finishDifferenceSet 42 = .ok (.aload_n 0, 1) := by decide +kernel
theorem dX8_finishDifferenceSet_43 : decode cX8_finishDifferenceSet 43 = .ok (.aload_n 1, 1) := by decide +kernel
theorem dX8_finishDifferenceSet_44 : decode cX8_finishDifferenceSet 44 = .ok (.iload_n 2, 1) := by decide +kernel
theorem dX8_finishDifferenceSet_45 : decode cX8_finishDifferenceSet 45 = .ok (.iconst 1, 1) := by decide +kernel
theorem dX8_finishDifferenceSet_46 : decode cX8_finishDifferenceSet 46 = .ok (.isub, 1) := by decide +kernel
theorem dX8_finishDifferenceSet_47 : decode cX8_finishDifferenceSet 47 = .ok (.iload_n 3, 1) := by decide +kernel
theorem dX8_finishDifferenceSet_48 : decode cX8_finishDifferenceSet 48 = .ok (.iload 4, 2) := by decide +kernel
theorem dX8_finishDifferenceSet_50 : decode cX8_finishDifferenceSet 50 = .ok (.invokestatic 379, 3) := by decide +kernel
theorem dX8_finishDifferenceSet_53 : decode cX8_finishDifferenceSet 53 = .ok (.ifCond .eq 5, 3) := by decide +kernel
theorem dX8_finishDifferenceSet_56 : decode cX8_finishDifferenceSet 56 = .ok (.iconst 1, 1) := by decide +kernel
theorem dX8_finishDifferenceSet_57 : decode cX8_finishDifferenceSet 57 = .ok (.ireturn, 1) := by decide +kernel
theorem dX8_finishDifferenceSet_58 : decode cX8_finishDifferenceSet 58 = .ok (.aload_n 0, 1) := by decide +kernel
theorem dX8_finishDifferenceSet_59 : decode cX8_finishDifferenceSet 59 = .ok (.invokevirtual 358, 3) := by decide +kernel
theorem dX8_finishDifferenceSet_62 : decode cX8_finishDifferenceSet 62 = .ok (.aload_n 1, 1) := by decide +kernel
theorem dX8_finishDifferenceSet_63 : decode cX8_finishDifferenceSet 63 = .ok (.aload_n 0, 1) := by decide +kernel
theorem dX8_finishDifferenceSet_64 : decode cX8_finishDifferenceSet 64 = .ok (.iload 5, 2) := by decide +kernel
theorem dX8_finishDifferenceSet_66 : decode cX8_finishDifferenceSet 66 = .ok (.iload_n 3, 1) := by decide +kernel
theorem dX8_finishDifferenceSet_67 : decode cX8_finishDifferenceSet 67 = .ok (.iconst (-1), 1) := by decide +kernel
theorem dX8_finishDifferenceSet_68 : decode cX8_finishDifferenceSet 68 = .ok (.invokevirtual 375, 3) := by decide +kernel
theorem dX8_finishDifferenceSet_71 : decode cX8_finishDifferenceSet 71 = .ok (.pop, 1) := by decide +kernel
theorem dX8_finishDifferenceSet_72 : decode cX8_finishDifferenceSet 72 = .ok (.iinc 5 1, 3) := by decide +kernel
theorem dX8_finishDifferenceSet_75 : decode cX8_finishDifferenceSet 75 = .ok (.goto (-61), 3) := by decide +kernel
theorem dX8_finishDifferenceSet_78 : decode cX8_finishDifferenceSet 78 = .ok (.iconst 0, 1) := by decide +kernel
theorem dX8_finishDifferenceSet_79 : decode cX8_finishDifferenceSet 79 = .ok (.ireturn, 1) := by decide +kernel
theorem dX9_init_0 : decode cX9_init 0 = .ok (.aload_n 0, 1) := by decide +kernel
theorem dX9_init_1 : decode cX9_init 1 = .ok (.invokespecial 1, 3) := by decide +kernel
theorem dX9_init_4 : decode cX9_init 4 = .ok (.aload_n 0, 1) := by decide +kernel
theorem dX9_init_5 : decode cX9_init 5 = .ok (.bipush 101, 2) := by decide +kernel
theorem dX9_init_7 : decode cX9_init 7 = .ok (.newarray .int, 2) := by decide +kernel
theorem dX9_init_9 : decode cX9_init 9 = .ok (.putfield 7, 3) := by decide +kernel
theorem dX9_init_12 : decode cX9_init 12 = .ok (.aload_n 0, 1) := by decide +kernel
theorem dX9_init_13 : decode cX9_init 13 = .ok (.sipush 404, 3) := by decide +kernel
theorem dX9_init_16 : decode cX9_init 16 = .ok (.newarray .int, 2) := by decide +kernel
theorem dX9_init_18 : decode cX9_init 18 = .ok (.putfield 13, 3) := by decide +kernel
theorem dX9_init_21 : decode cX9_init 21 = .ok (.aload_n 0, 1) := by decide +kernel
theorem dX9_init_22 : decode cX9_init 22 = .ok (.bipush 24, 2) := by decide +kernel
theorem dX9_init_24 : decode cX9_init 24 = .ok (.newarray .int, 2) := by decide +kernel
theorem dX9_init_26 : decode cX9_init 26 = .ok (.putfield 16, 3) := by decide +kernel
theorem dX9_init_29 : decode cX9_init 29 = .ok (.aload_n 0, 1) := by decide +kernel
theorem dX9_init_30 : decode cX9_init 30 = .ok (.sipush 2001, 3) := by decide +kernel
theorem dX9_init_33 : decode cX9_init 33 = .ok (.newarray .int, 2) := by decide +kernel
theorem dX9_init_35 : decode cX9_init 35 = .ok (.putfield 19, 3) := by decide +kernel
theorem dX9_init_38 : decode cX9_init 38 = .ok (.aload_n 0, 1) := by decide +kernel
theorem dX9_init_39 : decode cX9_init 39 = .ok (.bipush 24, 2) := by decide +kernel
theorem dX9_init_41 : decode cX9_init 41 = .ok (.newarray .int, 2) := by decide +kernel
theorem dX9_init_43 : decode cX9_init 43 = .ok (.putfield 22, 3) := by decide +kernel
theorem dX9_init_46 : decode cX9_init 46 = .ok (.aload_n 0, 1) := by decide +kernel
theorem dX9_init_47 : decode cX9_init 47 = .ok (.bipush 24, 2) := by decide +kernel
theorem dX9_init_49 : decode cX9_init 49 = .ok (.newarray .int, 2) := by decide +kernel
theorem dX9_init_51 : decode cX9_init 51 = .ok (.putfield 25, 3) := by decide +kernel
theorem dX9_init_54 : decode cX9_init 54 = .ok (.aload_n 0, 1) := by decide +kernel
theorem dX9_init_55 : decode cX9_init 55 = .ok (.getfield 7, 3) := by decide +kernel
theorem dX9_init_58 : decode cX9_init 58 = .ok (.iconst 0, 1) := by decide +kernel
theorem dX9_init_59 : decode cX9_init 59 = .ok (.bipush 31, 2) := by decide +kernel
theorem dX9_init_61 : decode cX9_init 61 = .ok (.iastore, 1) := by decide +kernel
theorem dX9_init_62 : decode cX9_init 62 = .ok (.return_, 1) := by decide +kernel
theorem dX9_thrown_0 : decode cX9_thrown 0 = .ok (.aload_n 0, 1) := by decide +kernel
theorem dX9_thrown_1 : decode cX9_thrown 1 = .ok (.getfield 28, 3) := by decide +kernel
theorem dX9_thrown_4 : decode cX9_thrown 4 = .ok (.ireturn, 1) := by decide +kernel
theorem dX9_refused_0 : decode cX9_refused 0 = .ok (.aload_n 0, 1) := by decide +kernel
theorem dX9_refused_1 : decode cX9_refused 1 = .ok (.iload_n 1, 1) := by decide +kernel
theorem dX9_refused_2 : decode cX9_refused 2 = .ok (.putfield 28, 3) := by decide +kernel
theorem dX9_refused_5 : decode cX9_refused 5 = .ok (.iload_n 1, 1) := by decide +kernel
theorem dX9_refused_6 : decode cX9_refused 6 = .ok (.ifCond .le 7, 3) := by decide +kernel
theorem dX9_refused_9 : decode cX9_refused 9 = .ok (.iconst 1, 1) := by decide +kernel
theorem dX9_refused_10 : decode cX9_refused 10 = .ok (.goto 4, 3) := by decide +kernel
theorem dX9_refused_13 : decode cX9_refused 13 = .ok (.iconst 0, 1) := by decide +kernel
theorem dX9_refused_14 : decode cX9_refused 14 = .ok (.ireturn, 1) := by decide +kernel
theorem dX9_within_0 : decode cX9_within 0 = .ok (.iload_n 0, 1) := by decide +kernel
theorem dX9_within_1 : decode cX9_within 1 = .ok (.iload_n 1, 1) := by decide +kernel
theorem dX9_within_2 : decode cX9_within 2 = .ok (.if_icmp .lt 12, 3) := by decide +kernel
theorem dX9_within_5 : decode cX9_within 5 = .ok (.iload_n 0, 1) := by decide +kernel
theorem dX9_within_6 : decode cX9_within 6 = .ok (.iload_n 2, 1) := by decide +kernel
theorem dX9_within_7 : decode cX9_within 7 = .ok (.if_icmp .gt 7, 3) := by decide +kernel
theorem dX9_within_10 : decode cX9_within 10 = .ok (.iconst 1, 1) := by decide +kernel
theorem dX9_within_11 : decode cX9_within 11 = .ok (.goto 4, 3) := by decide +kernel
theorem dX9_within_14 : decode cX9_within 14 = .ok (.iconst 0, 1) := by decide +kernel
theorem dX9_within_15 : decode cX9_within 15 = .ok (.ireturn, 1) := by decide +kernel
theorem dX9_isSet_0 : decode cX9_isSet 0 = .ok (.iload_n 0, 1) := by decide +kernel
theorem dX9_isSet_1 : decode cX9_isSet 1 = .ok (.iconst 0, 1) := by decide +kernel
theorem dX9_isSet_2 : decode cX9_isSet 2 = .ok (.iconst 3, 1) := by decide +kernel
theorem dX9_isSet_3 : decode cX9_isSet 3 = .ok (.invokestatic 32, 3) := by decide +kernel
theorem dX9_isSet_6 : decode cX9_isSet 6 = .ok (.ireturn, 1) := by decide +kernel
theorem dX9_many_0 : decode cX9_many 0 = .ok (.aload_n 0, 1) := by decide +kernel
theorem dX9_many_1 : decode cX9_many 1 = .ok (.getfield 7, 3) := by decide +kernel
theorem dX9_many_4 : decode cX9_many 4 = .ok (.iconst 1, 1) := by decide +kernel
theorem dX9_many_5 : decode cX9_many 5 = .ok (.bipush 25, 2) := by decide +kernel
theorem dX9_many_7 : decode cX9_many 7 = .ok (.iload_n 1, 1) := by decide +kernel
theorem dX9_many_8 : decode cX9_many 8 = .ok (.imul, 1) := by decide +kernel
theorem dX9_many_9 : decode cX9_many 9 = .ok (.iadd, 1) := by decide +kernel
theorem dX9_many_10 : decode cX9_many 10 = .ok (.iaload, 1) := by decide +kernel
theorem dX9_many_11 : decode cX9_many 11 = .ok (.ireturn, 1) := by decide +kernel
theorem dX9_markAt_0 : decode cX9_markAt 0 = .ok (.aload_n 0, 1) := by decide +kernel
theorem dX9_markAt_1 : decode cX9_markAt 1 = .ok (.getfield 7, 3) := by decide +kernel
theorem dX9_markAt_4 : decode cX9_markAt 4 = .ok (.iconst 1, 1) := by decide +kernel
theorem dX9_markAt_5 : decode cX9_markAt 5 = .ok (.bipush 25, 2) := by decide +kernel
theorem dX9_markAt_7 : decode cX9_markAt 7 = .ok (.iload_n 1, 1) := by decide +kernel
theorem dX9_markAt_8 : decode cX9_markAt 8 = .ok (.imul, 1) := by decide +kernel
theorem dX9_markAt_9 : decode cX9_markAt 9 = .ok (.iadd, 1) := by decide +kernel
theorem dX9_markAt_10 : decode cX9_markAt 10 = .ok (.iconst 1, 1) := by decide +kernel
theorem dX9_markAt_11 : decode cX9_markAt 11 = .ok (.iadd, 1) := by decide +kernel
theorem dX9_markAt_12 : decode cX9_markAt 12 = .ok (.iload_n 2, 1) := by decide +kernel
theorem dX9_markAt_13 : decode cX9_markAt 13 = .ok (.iadd, 1) := by decide +kernel
theorem dX9_markAt_14 : decode cX9_markAt 14 = .ok (.iaload, 1) := by decide +kernel
theorem dX9_markAt_15 : decode cX9_markAt 15 = .ok (.ireturn, 1) := by decide +kernel
theorem dX9_modulus_0 : decode cX9_modulus 0 = .ok (.aload_n 0, 1) := by decide +kernel
theorem dX9_modulus_1 : decode cX9_modulus 1 = .ok (.getfield 7, 3) := by decide +kernel
theorem dX9_modulus_4 : decode cX9_modulus 4 = .ok (.iconst 0, 1) := by decide +kernel
theorem dX9_modulus_5 : decode cX9_modulus 5 = .ok (.iaload, 1) := by decide +kernel
theorem dX9_modulus_6 : decode cX9_modulus 6 = .ok (.ireturn, 1) := by decide +kernel
theorem dX9_saves_0 : decode cX9_saves 0 = .ok (.aload_n 0, 1) := by decide +kernel
theorem dX9_saves_1 : decode cX9_saves 1 = .ok (.getfield 36, 3) := by decide +kernel
theorem dX9_saves_4 : decode cX9_saves 4 = .ok (.iconst 4, 1) := by decide +kernel
theorem dX9_saves_5 : decode cX9_saves 5 = .ok (.if_icmp .ne 43, 3) := by decide +kernel
theorem dX9_saves_8 : decode cX9_saves 8 = .ok (.iconst 0, 1) := by decide +kernel
theorem dX9_saves_9 : decode cX9_saves 9 = .ok (.istore_n 1, 1) := by decide +kernel
theorem dX9_saves_10 : decode cX9_saves 10 = .ok (.iload_n 1, 1) := by decide +kernel
theorem dX9_saves_11 : decode cX9_saves 11 = .ok (.sipush 303, 3) := by decide +kernel
theorem dX9_saves_14 : decode cX9_saves 14 = .ok (.if_icmp .ge 24, 3) := by decide +kernel
theorem dX9_saves_17 : decode cX9_saves 17 = .ok (.aload_n 0, 1) := by decide +kernel
theorem dX9_saves_18 : decode cX9_saves 18 = .ok (.getfield 13, 3) := by decide +kernel
theorem dX9_saves_21 : decode cX9_saves 21 = .ok (.iload_n 1, 1) := by decide +kernel
theorem dX9_saves_22 : decode cX9_saves 22 = .ok (.aload_n 0, 1) := by decide +kernel
theorem dX9_saves_23 : decode cX9_saves 23 = .ok (.getfield 13, 3) := by decide +kernel
theorem dX9_saves_26 : decode cX9_saves 26 = .ok (.iload_n 1, 1) := by decide +kernel
theorem dX9_saves_27 : decode cX9_saves 27 = .ok (.bipush 101, 2) := by decide +kernel
theorem dX9_saves_29 : decode cX9_saves 29 = .ok (.iadd, 1) := by decide +kernel
theorem dX9_saves_30 : decode cX9_saves 30 = .ok (.iaload, 1) := by decide +kernel
theorem dX9_saves_31 : decode cX9_saves 31 = .ok (.iastore, 1) := by decide +kernel
theorem dX9_saves_32 : decode cX9_saves 32 = .ok (.iinc 1 1, 3) := by decide +kernel
theorem dX9_saves_35 : decode cX9_saves 35 = .ok (.goto (-25), 3) := by decide +kernel
theorem dX9_saves_38 : decode cX9_saves 38 = .ok (.aload_n 0, 1) := by decide +kernel
theorem dX9_saves_39 : decode cX9_saves 39 = .ok (.dup, 1) := by decide +kernel
theorem dX9_saves_40 : decode cX9_saves 40 = .ok (.getfield 36, 3) := by decide +kernel
theorem dX9_saves_43 : decode cX9_saves 43 = .ok (.iconst 1, 1) := by decide +kernel
theorem dX9_saves_44 : decode cX9_saves 44 = .ok (.isub, 1) := by decide +kernel
theorem dX9_saves_45 : decode cX9_saves 45 = .ok (.putfield 36, 3) := by decide +kernel
theorem dX9_saves_48 : decode cX9_saves 48 = .ok (.iconst 0, 1) := by decide +kernel
theorem dX9_saves_49 : decode cX9_saves 49 = .ok (.istore_n 1, 1) := by decide +kernel
theorem dX9_saves_50 : decode cX9_saves 50 = .ok (.iload_n 1, 1) := by decide +kernel
theorem dX9_saves_51 : decode cX9_saves 51 = .ok (.bipush 101, 2) := by decide +kernel
theorem dX9_saves_53 : decode cX9_saves 53 = .ok (.if_icmp .ge 29, 3) := by decide +kernel
theorem dX9_saves_56 : decode cX9_saves 56 = .ok (.aload_n 0, 1) := by decide +kernel
theorem dX9_saves_57 : decode cX9_saves 57 = .ok (.getfield 13, 3) := by decide +kernel
theorem dX9_saves_60 : decode cX9_saves 60 = .ok (.bipush 101, 2) := by decide +kernel
theorem dX9_saves_62 : decode cX9_saves 62 = .ok (.aload_n 0, 1) := by decide +kernel
theorem dX9_saves_63 : decode cX9_saves 63 = .ok (.getfield 36, 3) := by decide +kernel
theorem dX9_saves_66 : decode cX9_saves 66 = .ok (.imul, 1) := by decide +kernel
theorem dX9_saves_67 : decode cX9_saves 67 = .ok (.iload_n 1, 1) := by decide +kernel
theorem dX9_saves_68 : decode cX9_saves 68 = .ok (.iadd, 1) := by decide +kernel
theorem dX9_saves_69 : decode cX9_saves 69 = .ok (.aload_n 0, 1) := by decide +kernel
theorem dX9_saves_70 : decode cX9_saves 70 = .ok (.getfield 7, 3) := by decide +kernel
theorem dX9_saves_73 : decode cX9_saves 73 = .ok (.iload_n 1, 1) := by decide +kernel
theorem dX9_saves_74 : decode cX9_saves 74 = .ok (.iaload, 1) := by decide +kernel
theorem dX9_saves_75 : decode cX9_saves 75 = .ok (.iastore, 1) := by decide +kernel
theorem dX9_saves_76 : decode cX9_saves 76 = .ok (.iinc 1 1, 3) := by decide +kernel
theorem dX9_saves_79 : decode cX9_saves 79 = .ok (.goto (-29), 3) := by decide +kernel
theorem dX9_saves_82 : decode cX9_saves 82 = .ok (.aload_n 0, 1) := by decide +kernel
theorem dX9_saves_83 : decode cX9_saves 83 = .ok (.dup, 1) := by decide +kernel
theorem dX9_saves_84 : decode cX9_saves 84 = .ok (.getfield 36, 3) := by decide +kernel
theorem dX9_saves_87 : decode cX9_saves 87 = .ok (.iconst 1, 1) := by decide +kernel
theorem dX9_saves_88 : decode cX9_saves 88 = .ok (.iadd, 1) := by decide +kernel
theorem dX9_saves_89 : decode cX9_saves 89 = .ok (.putfield 36, 3) := by decide +kernel
theorem dX9_saves_92 : decode cX9_saves 92 = .ok (.return_, 1) := by decide +kernel
theorem dX9_undo_0 : decode cX9_undo 0 = .ok (.aload_n 0, 1) := by decide +kernel
theorem dX9_undo_1 : decode cX9_undo 1 = .ok (.aload_n 0, 1) := by decide +kernel
theorem dX9_undo_2 : decode cX9_undo 2 = .ok (.getfield 36, 3) := by decide +kernel
theorem dX9_undo_5 : decode cX9_undo 5 = .ok (.ifCond .ne 7, 3) := by decide +kernel
theorem dX9_undo_8 : decode cX9_undo 8 = .ok (.iconst 1, 1) := by decide +kernel
theorem dX9_undo_9 : decode cX9_undo 9 = .ok (.goto 4, 3) := by decide +kernel
theorem dX9_undo_12 : decode cX9_undo 12 = .ok (.iconst 0, 1) := by decide +kernel
theorem dX9_undo_13 : decode cX9_undo 13 = .ok (.invokevirtual 39, 3) := by decide +kernel
theorem dX9_undo_16 : decode cX9_undo 16 = .ok (.ifCond .eq 5, 3) := by decide +kernel
theorem dX9_undo_19 : decode cX9_undo 19 = .ok (.iconst 0, 1) := by decide +kernel
theorem dX9_undo_20 : decode cX9_undo 20 = .ok (.ireturn, 1) := by decide +kernel
theorem dX9_undo_21 : decode cX9_undo 21 = .ok (.aload_n 0, 1) := by decide +kernel
theorem dX9_undo_22 : decode cX9_undo 22 = .ok (.dup, 1) := by decide +kernel
theorem dX9_undo_23 : decode cX9_undo 23 = .ok (.getfield 36, 3) := by decide +kernel
theorem dX9_undo_26 : decode cX9_undo 26 = .ok (.iconst 1, 1) := by decide +kernel
theorem dX9_undo_27 : decode cX9_undo 27 = .ok (.isub, 1) := by decide +kernel
theorem dX9_undo_28 : decode cX9_undo 28 = .ok (.putfield 36, 3) := by decide +kernel
theorem dX9_undo_31 : decode cX9_undo 31 = .ok (.iconst 0, 1) := by decide +kernel
theorem dX9_undo_32 : decode cX9_undo 32 = .ok (.istore_n 1, 1) := by decide +kernel
theorem dX9_undo_33 : decode cX9_undo 33 = .ok (.iload_n 1, 1) := by decide +kernel
theorem dX9_undo_34 : decode cX9_undo 34 = .ok (.bipush 101, 2) := by decide +kernel
theorem dX9_undo_36 : decode cX9_undo 36 = .ok (.if_icmp .ge 29, 3) := by decide +kernel
theorem dX9_undo_39 : decode cX9_undo 39 = .ok (.aload_n 0, 1) := by decide +kernel
theorem dX9_undo_40 : decode cX9_undo 40 = .ok (.getfield 7, 3) := by decide +kernel
theorem dX9_undo_43 : decode cX9_undo 43 = .ok (.iload_n 1, 1) := by decide +kernel
theorem dX9_undo_44 : decode cX9_undo 44 = .ok (.aload_n 0, 1) := by decide +kernel
theorem dX9_undo_45 : decode cX9_undo 45 = .ok (.getfield 13, 3) := by decide +kernel
theorem dX9_undo_48 : decode cX9_undo 48 = .ok (.bipush 101, 2) := by decide +kernel
theorem dX9_undo_50 : decode cX9_undo 50 = .ok (.aload_n 0, 1) := by decide +kernel
theorem dX9_undo_51 : decode cX9_undo 51 = .ok (.getfield 36, 3) := by decide +kernel
theorem dX9_undo_54 : decode cX9_undo 54 = .ok (.imul, 1) := by decide +kernel
theorem dX9_undo_55 : decode cX9_undo 55 = .ok (.iload_n 1, 1) := by decide +kernel
theorem dX9_undo_56 : decode cX9_undo 56 = .ok (.iadd, 1) := by decide +kernel
theorem dX9_undo_57 : decode cX9_undo 57 = .ok (.iaload, 1) := by decide +kernel
theorem dX9_undo_58 : decode cX9_undo 58 = .ok (.iastore, 1) := by decide +kernel
theorem dX9_undo_59 : decode cX9_undo 59 = .ok (.iinc 1 1, 3) := by decide +kernel
theorem dX9_undo_62 : decode cX9_undo 62 = .ok (.goto (-29), 3) := by decide +kernel
theorem dX9_undo_65 : decode cX9_undo 65 = .ok (.aload_n 0, 1) := by decide +kernel
theorem dX9_undo_66 : decode cX9_undo 66 = .ok (.getfield 36, 3) := by decide +kernel
theorem dX9_undo_69 : decode cX9_undo 69 = .ok (.ireturn, 1) := by decide +kernel
theorem dX9_begins_0 : decode cX9_begins 0 = .ok (.aload_n 0, 1) := by decide +kernel
theorem dX9_begins_1 : decode cX9_begins 1 = .ok (.iconst 0, 1) := by decide +kernel
theorem dX9_begins_2 : decode cX9_begins 2 = .ok (.putfield 43, 3) := by decide +kernel
theorem dX9_begins_5 : decode cX9_begins 5 = .ok (.return_, 1) := by decide +kernel
theorem dX9_comes_0 : decode cX9_comes 0 = .ok (.iconst 0, 1) := by decide +kernel
theorem dX9_comes_1 : decode cX9_comes 1 = .ok (.istore_n 2, 1) := by decide +kernel
theorem dX9_comes_2 : decode cX9_comes 2 = .ok (.iload_n 2, 1) := by decide +kernel
theorem dX9_comes_3 : decode cX9_comes 3 = .ok (.aload_n 0, 1) := by decide +kernel
theorem dX9_comes_4 : decode cX9_comes 4 = .ok (.getfield 43, 3) := by decide +kernel
theorem dX9_comes_7 : decode cX9_comes 7 = .ok (.if_icmp .ge 19, 3) := by decide +kernel
theorem dX9_comes_10 : decode cX9_comes 10 = .ok (.aload_n 0, 1) := by decide +kernel
theorem dX9_comes_11 : decode cX9_comes 11 = .ok (.getfield 16, 3) := by decide +kernel
theorem dX9_comes_14 : decode cX9_comes 14 = .ok (.iload_n 2, 1) := by decide +kernel
theorem dX9_comes_15 : decode cX9_comes 15 = .ok (.iaload, 1) := by decide +kernel
theorem dX9_comes_16 : decode cX9_comes 16 = .ok (.iload_n 1, 1) := by decide +kernel
theorem dX9_comes_17 : decode cX9_comes 17 = .ok (.if_icmp .ge 9, 3) := by decide +kernel
theorem dX9_comes_20 : decode cX9_comes 20 = .ok (.iinc 2 1, 3) := by decide +kernel
theorem dX9_comes_23 : decode cX9_comes 23 = .ok (.goto (-21), 3) := by decide +kernel
theorem dX9_comes_26 : decode cX9_comes 26 = .ok (.iload_n 2, 1) := by decide +kernel
theorem dX9_comes_27 : decode cX9_comes 27 = .ok (.aload_n 0, 1) := by decide +kernel
theorem dX9_comes_28 : decode cX9_comes 28 = .ok (.getfield 43, 3) := by decide +kernel
theorem dX9_comes_31 : decode cX9_comes 31 = .ok (.if_icmp .ge 14, 3) := by decide +kernel
theorem dX9_comes_34 : decode cX9_comes 34 = .ok (.aload_n 0, 1) := by decide +kernel
theorem dX9_comes_35 : decode cX9_comes 35 = .ok (.getfield 16, 3) := by decide +kernel
theorem dX9_comes_38 : decode cX9_comes 38 = .ok (.iload_n 2, 1) := by decide +kernel
theorem dX9_comes_39 : decode cX9_comes 39 = .ok (.iaload, 1) := by decide +kernel
theorem dX9_comes_40 : decode cX9_comes 40 = .ok (.iload_n 1, 1) := by decide +kernel
theorem dX9_comes_41 : decode cX9_comes 41 = .ok (.if_icmp .ne 4, 3) := by decide +kernel
theorem dX9_comes_44 : decode cX9_comes 44 = .ok (.return_, 1) := by decide +kernel
theorem dX9_comes_45 : decode cX9_comes 45 = .ok (.aload_n 0, 1) := by decide +kernel
theorem dX9_comes_46 : decode cX9_comes 46 = .ok (.getfield 43, 3) := by decide +kernel
theorem dX9_comes_49 : decode cX9_comes 49 = .ok (.istore_n 3, 1) := by decide +kernel
theorem dX9_comes_50 : decode cX9_comes 50 = .ok (.iload_n 3, 1) := by decide +kernel
theorem dX9_comes_51 : decode cX9_comes 51 = .ok (.iload_n 2, 1) := by decide +kernel
theorem dX9_comes_52 : decode cX9_comes 52 = .ok (.if_icmp .le 23, 3) := by decide +kernel
theorem dX9_comes_55 : decode cX9_comes 55 = .ok (.aload_n 0, 1) := by decide +kernel
theorem dX9_comes_56 : decode cX9_comes 56 = .ok (.getfield 16, 3) := by decide +kernel
theorem dX9_comes_59 : decode cX9_comes 59 = .ok (.iload_n 3, 1) := by decide +kernel
theorem dX9_comes_60 : decode cX9_comes 60 = .ok (.aload_n 0, 1) := by decide +kernel
theorem dX9_comes_61 : decode cX9_comes 61 = .ok (.getfield 16, 3) := by decide +kernel
theorem dX9_comes_64 : decode cX9_comes 64 = .ok (.iload_n 3, 1) := by decide +kernel
theorem dX9_comes_65 : decode cX9_comes 65 = .ok (.iconst 1, 1) := by decide +kernel
theorem dX9_comes_66 : decode cX9_comes 66 = .ok (.isub, 1) := by decide +kernel
theorem dX9_comes_67 : decode cX9_comes 67 = .ok (.iaload, 1) := by decide +kernel
theorem dX9_comes_68 : decode cX9_comes 68 = .ok (.iastore, 1) := by decide +kernel
theorem dX9_comes_69 : decode cX9_comes 69 = .ok (.iinc 3 (-1), 3) := by decide +kernel
theorem dX9_comes_72 : decode cX9_comes 72 = .ok (.goto (-22), 3) := by decide +kernel
theorem dX9_comes_75 : decode cX9_comes 75 = .ok (.aload_n 0, 1) := by decide +kernel
theorem dX9_comes_76 : decode cX9_comes 76 = .ok (.getfield 16, 3) := by decide +kernel
theorem dX9_comes_79 : decode cX9_comes 79 = .ok (.iload_n 2, 1) := by decide +kernel
theorem dX9_comes_80 : decode cX9_comes 80 = .ok (.iload_n 1, 1) := by decide +kernel
theorem dX9_comes_81 : decode cX9_comes 81 = .ok (.iastore, 1) := by decide +kernel
theorem dX9_comes_82 : decode cX9_comes 82 = .ok (.aload_n 0, 1) := by decide +kernel
theorem dX9_comes_83 : decode cX9_comes 83 = .ok (.dup, 1) := by decide +kernel
theorem dX9_comes_84 : decode cX9_comes 84 = .ok (.getfield 43, 3) := by decide +kernel
theorem dX9_comes_87 : decode cX9_comes 87 = .ok (.iconst 1, 1) := by decide +kernel
theorem dX9_comes_88 : decode cX9_comes 88 = .ok (.iadd, 1) := by decide +kernel
theorem dX9_comes_89 : decode cX9_comes 89 = .ok (.putfield 43, 3) := by decide +kernel
theorem dX9_comes_92 : decode cX9_comes 92 = .ok (.return_, 1) := by decide +kernel
theorem dX9_becomes_0 : decode cX9_becomes 0 = .ok (.iconst 1, 1) := by decide +kernel
theorem dX9_becomes_1 : decode cX9_becomes 1 = .ok (.bipush 25, 2) := by decide +kernel
theorem dX9_becomes_3 : decode cX9_becomes 3 = .ok (.iload_n 1, 1) := by decide +kernel
theorem dX9_becomes_4 : decode cX9_becomes 4 = .ok (.imul, 1) := by decide +kernel
theorem dX9_becomes_5 : decode cX9_becomes 5 = .ok (.iadd, 1) := by decide +kernel
theorem dX9_becomes_6 : decode cX9_becomes 6 = .ok (.istore_n 2, 1) := by decide +kernel
theorem dX9_becomes_7 : decode cX9_becomes 7 = .ok (.iconst 0, 1) := by decide +kernel
theorem dX9_becomes_8 : decode cX9_becomes 8 = .ok (.istore_n 3, 1) := by decide +kernel
theorem dX9_becomes_9 : decode cX9_becomes 9 = .ok (.iload_n 3, 1) := by decide +kernel
theorem dX9_becomes_10 : decode cX9_becomes 10 = .ok (.bipush 25, 2) := by decide +kernel
theorem dX9_becomes_12 : decode cX9_becomes 12 = .ok (.if_icmp .ge 18, 3) := by decide +kernel
theorem dX9_becomes_15 : decode cX9_becomes 15 = .ok (.aload_n 0, 1) := by decide +kernel
theorem dX9_becomes_16 : decode cX9_becomes 16 = .ok (.getfield 7, 3) := by decide +kernel
theorem dX9_becomes_19 : decode cX9_becomes 19 = .ok (.iload_n 2, 1) := by decide +kernel
theorem dX9_becomes_20 : decode cX9_becomes 20 = .ok (.iload_n 3, 1) := by decide +kernel
theorem dX9_becomes_21 : decode cX9_becomes 21 = .ok (.iadd, 1) := by decide +kernel
theorem dX9_becomes_22 : decode cX9_becomes 22 = .ok (.iconst 0, 1) := by decide +kernel
theorem dX9_becomes_23 : decode cX9_becomes 23 = .ok (.iastore, 1) := by decide +kernel
theorem dX9_becomes_24 : decode cX9_becomes 24 = .ok (.iinc 3 1, 3) := by decide +kernel
theorem dX9_becomes_27 : decode cX9_becomes 27 = .ok (.goto (-18), 3) := by decide +kernel
theorem dX9_becomes_30 : decode cX9_becomes 30 = .ok (.aload_n 0, 1) := by decide +kernel
theorem dX9_becomes_31 : decode cX9_becomes 31 = .ok (.getfield 7, 3) := by decide +kernel
theorem dX9_becomes_34 : decode cX9_becomes 34 = .ok (.iload_n 2, 1) := by decide +kernel
theorem dX9_becomes_35 : decode cX9_becomes 35 = .ok (.aload_n 0, 1) := by decide +kernel
theorem dX9_becomes_36 : decode cX9_becomes 36 = .ok (.getfield 43, 3) := by decide +kernel
theorem dX9_becomes_39 : decode cX9_becomes 39 = .ok (.iastore, 1) := by decide +kernel
theorem dX9_becomes_40 : decode cX9_becomes 40 = .ok (.iconst 0, 1) := by decide +kernel
theorem dX9_becomes_41 : decode cX9_becomes 41 = .ok (.istore_n 3, 1) := by decide +kernel
theorem dX9_becomes_42 : decode cX9_becomes 42 = .ok (.iload_n 3, 1) := by decide +kernel
theorem dX9_becomes_43 : decode cX9_becomes 43 = .ok (.aload_n 0, 1) := by decide +kernel
theorem dX9_becomes_44 : decode cX9_becomes 44 = .ok (.getfield 43, 3) := by decide +kernel
theorem dX9_becomes_47 : decode cX9_becomes 47 = .ok (.if_icmp .ge 25, 3) := by decide +kernel
theorem dX9_becomes_50 : decode cX9_becomes 50 = .ok (.aload_n 0, 1) := by decide +kernel
theorem dX9_becomes_51 : decode cX9_becomes 51 = .ok (.getfield 7, 3) := by decide +kernel
theorem dX9_becomes_54 : decode cX9_becomes 54 = .ok (.iload_n 2, 1) := by decide +kernel
theorem dX9_becomes_55 : decode cX9_becomes 55 = .ok (.iconst 1, 1) := by decide +kernel
theorem dX9_becomes_56 : decode cX9_becomes 56 = .ok (.iadd, 1) := by decide +kernel
theorem dX9_becomes_57 : decode cX9_becomes 57 = .ok (.iload_n 3, 1) := by decide +kernel
theorem dX9_becomes_58 : decode cX9_becomes 58 = .ok (.iadd, 1) := by decide +kernel
theorem dX9_becomes_59 : decode cX9_becomes 59 = .ok (.aload_n 0, 1) := by decide +kernel
theorem dX9_becomes_60 : decode cX9_becomes 60 = .ok (.getfield 16, 3) := by decide +kernel
theorem dX9_becomes_63 : decode cX9_becomes 63 = .ok (.iload_n 3, 1) := by decide +kernel
theorem dX9_becomes_64 : decode cX9_becomes 64 = .ok (.iaload, 1) := by decide +kernel
theorem dX9_becomes_65 : decode cX9_becomes 65 = .ok (.iastore, 1) := by decide +kernel
theorem dX9_becomes_66 : decode cX9_becomes 66 = .ok (.iinc 3 1, 3) := by decide +kernel
theorem dX9_becomes_69 : decode cX9_becomes 69 = .ok (.goto (-27), 3) := by decide +kernel
theorem dX9_becomes_72 : decode cX9_becomes 72 = .ok (.aload_n 0, 1) := by decide +kernel
theorem dX9_becomes_73 : decode cX9_becomes 73 = .ok (.getfield 43, 3) := by decide +kernel
theorem dX9_becomes_76 : decode cX9_becomes 76 = .ok (.ireturn, 1) := by decide +kernel
theorem dX9_lengthOf_0 : decode cX9_lengthOf 0 = .ok (.aload_n 0, 1) := by decide +kernel
theorem dX9_lengthOf_1 : decode cX9_lengthOf 1 = .ok (.iload_n 1, 1) := by decide +kernel
theorem dX9_lengthOf_2 : decode cX9_lengthOf 2 = .ok (.invokevirtual 46, 3) := by decide +kernel
theorem dX9_lengthOf_5 : decode cX9_lengthOf 5 = .ok (.iconst 2, 1) := by decide +kernel
theorem dX9_lengthOf_6 : decode cX9_lengthOf 6 = .ok (.if_icmp .ge 7, 3) := by decide +kernel
theorem dX9_lengthOf_9 : decode cX9_lengthOf 9 = .ok (.iconst 0, 1) := by decide +kernel
theorem dX9_lengthOf_10 : decode cX9_lengthOf 10 = .ok (.goto 22, 3) := by decide +kernel
theorem dX9_lengthOf_13 : decode cX9_lengthOf 13 = .ok (.aload_n 0, 1) := by decide +kernel
theorem dX9_lengthOf_14 : decode cX9_lengthOf 14 = .ok (.iload_n 1, 1) := by decide +kernel
theorem dX9_lengthOf_15 : decode cX9_lengthOf 15 = .ok (.aload_n 0, 1) := by decide +kernel
theorem dX9_lengthOf_16 : decode cX9_lengthOf 16 = .ok (.iload_n 1, 1) := by decide +kernel
theorem dX9_lengthOf_17 : decode cX9_lengthOf 17 = .ok (.invokevirtual 46, 3) := by decide +kernel
theorem dX9_lengthOf_20 : decode cX9_lengthOf 20 = .ok (.iconst 1, 1) := by decide +kernel
theorem dX9_lengthOf_21 : decode cX9_lengthOf 21 = .ok (.isub, 1) := by decide +kernel
theorem dX9_lengthOf_22 : decode cX9_lengthOf 22 = .ok (.invokevirtual 50, 3) := by decide +kernel
theorem dX9_lengthOf_25 : decode cX9_lengthOf 25 = .ok (.aload_n 0, 1) := by decide +kernel
theorem dX9_lengthOf_26 : decode cX9_lengthOf 26 = .ok (.iload_n 1, 1) := by decide +kernel
theorem dX9_lengthOf_27 : decode cX9_lengthOf 27 = .ok (.iconst 0, 1) := by decide +kernel
theorem dX9_lengthOf_28 : decode cX9_lengthOf 28 = .ok (.invokevirtual 50, 3) := by decide +kernel
theorem dX9_lengthOf_31 : decode cX9_lengthOf 31 = .ok (.isub, 1) := by decide +kernel
theorem dX9_lengthOf_32 : decode cX9_lengthOf 32 = .ok (.ireturn, 1) := by decide +kernel
theorem dX9_numberOf_0 : decode cX9_numberOf 0 = .ok (.iconst (-1), 1) := by decide +kernel
theorem dX9_numberOf_1 : decode cX9_numberOf 1 = .ok (.istore_n 3, 1) := by decide +kernel
theorem dX9_numberOf_2 : decode cX9_numberOf 2 = .ok (.iconst 0, 1) := by decide +kernel
theorem dX9_numberOf_3 : decode cX9_numberOf 3 = .ok (.istore 4, 2) := by decide +kernel
theorem dX9_numberOf_5 : decode cX9_numberOf 5 = .ok (.iload 4, 2) := by decide +kernel
theorem dX9_numberOf_7 : decode cX9_numberOf 7 = .ok (.aload_n 0, 1) := by decide +kernel
theorem dX9_numberOf_8 : decode cX9_numberOf 8 = .ok (.iload_n 1, 1) := by decide +kernel
theorem dX9_numberOf_9 : decode cX9_numberOf 9 = .ok (.invokevirtual 46, 3) := by decide +kernel
theorem dX9_numberOf_12 : decode cX9_numberOf 12 = .ok (.if_icmp .ge 27, 3) := by decide +kernel
theorem dX9_numberOf_15 : decode cX9_numberOf 15 = .ok (.aload_n 0, 1) := by decide +kernel
theorem dX9_numberOf_16 : decode cX9_numberOf 16 = .ok (.iload_n 1, 1) := by decide +kernel
theorem dX9_numberOf_17 : decode cX9_numberOf 17 = .ok (.iload 4, 2) := by decide +kernel
theorem dX9_numberOf_19 : decode cX9_numberOf 19 = .ok (.invokevirtual 50, 3) := by decide +kernel
theorem dX9_numberOf_22 : decode cX9_numberOf 22 = .ok (.iload_n 2, 1) := by decide +kernel
theorem dX9_numberOf_23 : decode cX9_numberOf 23 = .ok (.if_icmp .ne 8, 3) := by decide +kernel
theorem dX9_numberOf_26 : decode cX9_numberOf 26 = .ok (.iload 4, 2) := by decide +kernel
theorem dX9_numberOf_28 : decode cX9_numberOf 28 = .ok (.goto 4, 3) := by decide +kernel
theorem dX9_numberOf_31 : decode cX9_numberOf 31 = .ok (.iload_n 3, 1) := by decide +kernel
theorem dX9_numberOf_32 : decode cX9_numberOf 32 = .ok (.istore_n 3, 1) := by decide +kernel
theorem dX9_numberOf_33 : decode cX9_numberOf 33 = .ok (.iinc 4 1, 3) := by decide +kernel
theorem dX9_numberOf_36 : decode cX9_numberOf 36 = .ok (.goto (-31), 3) := by decide +kernel
theorem dX9_numberOf_39 : decode cX9_numberOf 39 = .ok (.iload_n 3, 1) := by decide +kernel
theorem dX9_numberOf_40 : decode cX9_numberOf 40 = .ok (.ireturn, 1) := by decide +kernel
theorem dX9_takes_0 : decode cX9_takes 0 = .ok (.aload_n 0, 1) := by decide +kernel
theorem dX9_takes_1 : decode cX9_takes 1 = .ok (.invokevirtual 54, 3) := by decide +kernel
theorem dX9_takes_4 : decode cX9_takes 4 = .ok (.iconst 0, 1) := by decide +kernel
theorem dX9_takes_5 : decode cX9_takes 5 = .ok (.istore_n 3, 1) := by decide +kernel
theorem dX9_takes_6 : decode cX9_takes 6 = .ok (.iload_n 3, 1) := by decide +kernel
theorem dX9_takes_7 : decode cX9_takes 7 = .ok (.aload_n 0, 1) := by decide +kernel
theorem dX9_takes_8 : decode cX9_takes 8 = .ok (.iload_n 1, 1) := by decide +kernel
theorem dX9_takes_9 : decode cX9_takes 9 = .ok (.invokevirtual 46, 3) := by decide +kernel
theorem dX9_takes_12 : decode cX9_takes 12 = .ok (.if_icmp .ge 29, 3) := by decide +kernel
theorem dX9_takes_15 : decode cX9_takes 15 = .ok (.aload_n 0, 1) := by decide +kernel
theorem dX9_takes_16 : decode cX9_takes 16 = .ok (.iload_n 1, 1) := by decide +kernel
theorem dX9_takes_17 : decode cX9_takes 17 = .ok (.iload_n 3, 1) := by decide +kernel
theorem dX9_takes_18 : decode cX9_takes 18 = .ok (.invokevirtual 50, 3) := by decide +kernel
theorem dX9_takes_21 : decode cX9_takes 21 = .ok (.iload_n 2, 1) := by decide +kernel
theorem dX9_takes_22 : decode cX9_takes 22 = .ok (.if_icmp .eq 13, 3) := by decide +kernel
theorem dX9_takes_25 : decode cX9_takes 25 = .ok (.aload_n 0, 1) := by decide +kernel
theorem dX9_takes_26 : decode cX9_takes 26 = .ok (.aload_n 0, 1) := by decide +kernel
theorem dX9_takes_27 : decode cX9_takes 27 = .ok (.iload_n 1, 1) := by decide +kernel
theorem dX9_takes_28 : decode cX9_takes 28 = .ok (.iload_n 3, 1) := by decide +kernel
theorem dX9_takes_29 : decode cX9_takes 29 = .ok (.invokevirtual 50, 3) := by decide +kernel
theorem dX9_takes_32 : decode cX9_takes 32 = .ok (.invokevirtual 57, 3) := by decide +kernel
theorem dX9_takes_35 : decode cX9_takes 35 = .ok (.iinc 3 1, 3) := by decide +kernel
theorem dX9_takes_38 : decode cX9_takes 38 = .ok (.goto (-32), 3) := by decide +kernel
theorem dX9_takes_41 : decode cX9_takes 41 = .ok (.return_, 1) := by decide +kernel
theorem dX9_add_0 : decode cX9_add 0 = .ok (.aload_n 0, 1) := by decide +kernel
theorem dX9_add_1 : decode cX9_add 1 = .ok (.iload_n 1, 1) := by decide +kernel
theorem dX9_add_2 : decode cX9_add 2 = .ok (.invokestatic 61, 3) := by decide +kernel
theorem dX9_add_5 : decode cX9_add 5 = .ok (.ifCond .ne 7, 3) := by decide +kernel
theorem dX9_add_8 : decode cX9_add 8 = .ok (.iconst 1, 1) := by decide +kernel
theorem dX9_add_9 : decode cX9_add 9 = .ok (.goto 43, 3) := by decide +kernel
theorem dX9_add_12 : decode cX9_add 12 = .ok (.iload_n 2, 1) := by decide +kernel
theorem dX9_add_13 : decode cX9_add 13 = .ok (.iconst 0, 1) := by decide +kernel
theorem dX9_add_14 : decode cX9_add 14 = .ok (.sipush 2000, 3) := by decide +kernel
theorem dX9_add_17 : decode cX9_add 17 = .ok (.invokestatic 32, 3) := by decide +kernel
theorem dX9_add_20 : decode cX9_add 20 = .ok (.ifCond .ne 7, 3) := by decide +kernel
theorem dX9_add_23 : decode cX9_add 23 = .ok (.iconst 2, 1) := by decide +kernel
theorem dX9_add_24 : decode cX9_add 24 = .ok (.goto 28, 3) := by decide +kernel
theorem dX9_add_27 : decode cX9_add 27 = .ok (.aload_n 0, 1) := by decide +kernel
theorem dX9_add_28 : decode cX9_add 28 = .ok (.iload_n 1, 1) := by decide +kernel
theorem dX9_add_29 : decode cX9_add 29 = .ok (.iload_n 2, 1) := by decide +kernel
theorem dX9_add_30 : decode cX9_add 30 = .ok (.invokevirtual 64, 3) := by decide +kernel
theorem dX9_add_33 : decode cX9_add 33 = .ok (.iconst (-1), 1) := by decide +kernel
theorem dX9_add_34 : decode cX9_add 34 = .ok (.if_icmp .ne 13, 3) := by decide +kernel
theorem dX9_add_37 : decode cX9_add 37 = .ok (.aload_n 0, 1) := by decide +kernel
theorem dX9_add_38 : decode cX9_add 38 = .ok (.iload_n 1, 1) := by decide +kernel
theorem dX9_add_39 : decode cX9_add 39 = .ok (.invokevirtual 46, 3) := by decide +kernel
theorem dX9_add_42 : decode cX9_add 42 = .ok (.bipush 24, 2) := by decide +kernel
theorem dX9_add_44 : decode cX9_add 44 = .ok (.if_icmp .ne 7, 3) := by decide +kernel
theorem dX9_add_47 : decode cX9_add 47 = .ok (.iconst 3, 1) := by decide +kernel
theorem dX9_add_48 : decode cX9_add 48 = .ok (.goto 4, 3) := by decide +kernel
theorem dX9_add_51 : decode cX9_add 51 = .ok (.iconst 0, 1) := by decide +kernel
theorem dX9_add_52 : decode cX9_add 52 = .ok (.invokevirtual 39, 3) := by decide +kernel
theorem dX9_add_55 : decode cX9_add 55 = .ok (.ifCond .eq 5, 3) := by decide +kernel
theorem dX9_add_58 : decode cX9_add 58 = .ok (.iconst 0, 1) := by decide +kernel
theorem dX9_add_59 : decode cX9_add 59 = .ok (.ireturn, 1) := by decide +kernel
theorem dX9_add_60 : decode cX9_add 60 = .ok (.aload_n 0, 1) := by decide +kernel
theorem dX9_add_61 : decode cX9_add 61 = .ok (.invokevirtual 67, 3) := by decide +kernel
theorem dX9_add_64 : decode cX9_add 64 = .ok (.aload_n 0, 1) := by decide +kernel
theorem dX9_add_65 : decode cX9_add 65 = .ok (.iload_n 1, 1) := by decide +kernel
theorem dX9_add_66 : decode cX9_add 66 = .ok (.iconst (-1), 1) := by decide +kernel
theorem dX9_add_67 : decode cX9_add 67 = .ok (.invokevirtual 70, 3) := by decide +kernel
theorem dX9_add_70 : decode cX9_add 70 = .ok (.aload_n 0, 1) := by decide +kernel
theorem dX9_add_71 : decode cX9_add 71 = .ok (.iload_n 2, 1) := by decide +kernel
theorem dX9_add_72 : decode cX9_add 72 = .ok (.invokevirtual 57, 3) := by decide +kernel
theorem dX9_add_75 : decode cX9_add 75 = .ok (.aload_n 0, 1) := by decide +kernel
theorem dX9_add_76 : decode cX9_add 76 = .ok (.iload_n 1, 1) := by decide +kernel
theorem dX9_add_77 : decode cX9_add 77 = .ok (.invokevirtual 74, 3) := by decide +kernel
theorem dX9_add_80 : decode cX9_add 80 = .ok (.pop, 1) := by decide +kernel
theorem dX9_add_81 : decode cX9_add 81 = .ok (.aload_n 0, 1) := by decide +kernel
theorem dX9_add_82 : decode cX9_add 82 = .ok (.iload_n 1, 1) := by decide +kernel
theorem dX9_add_83 : decode cX9_add 83 = .ok (.iload_n 2, 1) := by decide +kernel
theorem dX9_add_84 : decode cX9_add 84 = .ok (.invokevirtual 64, 3) := by decide +kernel
theorem dX9_add_87 : decode cX9_add 87 = .ok (.ireturn, 1) := by decide +kernel
theorem dX9_remove_0 : decode cX9_remove 0 = .ok (.aload_n 0, 1) := by decide +kernel
theorem dX9_remove_1 : decode cX9_remove 1 = .ok (.iload_n 1, 1) := by decide +kernel
theorem dX9_remove_2 : decode cX9_remove 2 = .ok (.invokestatic 61, 3) := by decide +kernel
theorem dX9_remove_5 : decode cX9_remove 5 = .ok (.ifCond .ne 7, 3) := by decide +kernel
theorem dX9_remove_8 : decode cX9_remove 8 = .ok (.iconst 1, 1) := by decide +kernel
theorem dX9_remove_9 : decode cX9_remove 9 = .ok (.goto 18, 3) := by decide +kernel
theorem dX9_remove_12 : decode cX9_remove 12 = .ok (.aload_n 0, 1) := by decide +kernel
theorem dX9_remove_13 : decode cX9_remove 13 = .ok (.iload_n 1, 1) := by decide +kernel
theorem dX9_remove_14 : decode cX9_remove 14 = .ok (.iload_n 2, 1) := by decide +kernel
theorem dX9_remove_15 : decode cX9_remove 15 = .ok (.invokevirtual 64, 3) := by decide +kernel
theorem dX9_remove_18 : decode cX9_remove 18 = .ok (.iconst (-1), 1) := by decide +kernel
theorem dX9_remove_19 : decode cX9_remove 19 = .ok (.if_icmp .ne 7, 3) := by decide +kernel
theorem dX9_remove_22 : decode cX9_remove 22 = .ok (.iconst 2, 1) := by decide +kernel
theorem dX9_remove_23 : decode cX9_remove 23 = .ok (.goto 4, 3) := by decide +kernel
theorem dX9_remove_26 : decode cX9_remove 26 = .ok (.iconst 0, 1) := by decide +kernel
theorem dX9_remove_27 : decode cX9_remove 27 = .ok (.invokevirtual 39, 3) := by decide +kernel
theorem dX9_remove_30 : decode cX9_remove 30 = .ok (.ifCond .eq 5, 3) := by decide +kernel
theorem dX9_remove_33 : decode cX9_remove 33 = .ok (.iconst 0, 1) := by decide +kernel
theorem dX9_remove_34 : decode cX9_remove 34 = .ok (.ireturn, 1) := by decide +kernel
theorem dX9_remove_35 : decode cX9_remove 35 = .ok (.aload_n 0, 1) := by decide +kernel
theorem dX9_remove_36 : decode cX9_remove 36 = .ok (.invokevirtual 67, 3) := by decide +kernel
theorem dX9_remove_39 : decode cX9_remove 39 = .ok (.aload_n 0, 1) := by decide +kernel
theorem dX9_remove_40 : decode cX9_remove 40 = .ok (.iload_n 1, 1) := by decide +kernel
theorem dX9_remove_41 : decode cX9_remove 41 = .ok (.iload_n 2, 1) := by decide +kernel
theorem dX9_remove_42 : decode cX9_remove 42 = .ok (.invokevirtual 70, 3) := by decide +kernel
theorem dX9_remove_45 : decode cX9_remove 45 = .ok (.aload_n 0, 1) := by decide +kernel
theorem dX9_remove_46 : decode cX9_remove 46 = .ok (.iload_n 1, 1) := by decide +kernel
theorem dX9_remove_47 : decode cX9_remove 47 = .ok (.invokevirtual 74, 3) := by decide +kernel
theorem dX9_remove_50 : decode cX9_remove 50 = .ok (.ireturn, 1) := by decide +kernel
theorem dX9_clear_0 : decode cX9_clear 0 = .ok (.aload_n 0, 1) := by decide +kernel
theorem dX9_clear_1 : decode cX9_clear 1 = .ok (.iload_n 1, 1) := by decide +kernel
theorem dX9_clear_2 : decode cX9_clear 2 = .ok (.invokestatic 61, 3) := by decide +kernel
theorem dX9_clear_5 : decode cX9_clear 5 = .ok (.ifCond .eq 7, 3) := by decide +kernel
theorem dX9_clear_8 : decode cX9_clear 8 = .ok (.iconst 0, 1) := by decide +kernel
theorem dX9_clear_9 : decode cX9_clear 9 = .ok (.goto 4, 3) := by decide +kernel
theorem dX9_clear_12 : decode cX9_clear 12 = .ok (.iconst 1, 1) := by decide +kernel
theorem dX9_clear_13 : decode cX9_clear 13 = .ok (.invokevirtual 39, 3) := by decide +kernel
theorem dX9_clear_16 : decode cX9_clear 16 = .ok (.ifCond .eq 5, 3) := by decide +kernel
theorem dX9_clear_19 : decode cX9_clear 19 = .ok (.iconst 0, 1) := by decide +kernel
theorem dX9_clear_20 : decode cX9_clear 20 = .ok (.ireturn, 1) := by decide +kernel
theorem dX9_clear_21 : decode cX9_clear 21 = .ok (.aload_n 0, 1) := by decide +kernel
theorem dX9_clear_22 : decode cX9_clear 22 = .ok (.invokevirtual 67, 3) := by decide +kernel
theorem dX9_clear_25 : decode cX9_clear 25 = .ok (.aload_n 0, 1) := by decide +kernel
theorem dX9_clear_26 : decode cX9_clear 26 = .ok (.iload_n 1, 1) := by decide +kernel
theorem dX9_clear_27 : decode cX9_clear 27 = .ok (.invokevirtual 46, 3) := by decide +kernel
theorem dX9_clear_30 : decode cX9_clear 30 = .ok (.istore_n 2, 1) := by decide +kernel
theorem dX9_clear_31 : decode cX9_clear 31 = .ok (.aload_n 0, 1) := by decide +kernel
theorem dX9_clear_32 : decode cX9_clear 32 = .ok (.invokevirtual 54, 3) := by decide +kernel
theorem dX9_clear_35 : decode cX9_clear 35 = .ok (.aload_n 0, 1) := by decide +kernel
theorem dX9_clear_36 : decode cX9_clear 36 = .ok (.iload_n 1, 1) := by decide +kernel
theorem dX9_clear_37 : decode cX9_clear 37 = .ok (.invokevirtual 74, 3) := by decide +kernel
theorem dX9_clear_40 : decode cX9_clear 40 = .ok (.pop, 1) := by decide +kernel
theorem dX9_clear_41 : decode cX9_clear 41 = .ok (.iload_n 2, 1) := by decide +kernel
theorem dX9_clear_42 : decode cX9_clear 42 = .ok (.ireturn, 1) := by decide +kernel
theorem dX9_copy_0 : decode cX9_copy 0 = .ok (.aload_n 0, 1) := by decide +kernel
theorem dX9_copy_1 : decode cX9_copy 1 = .ok (.iload_n 1, 1) := by decide +kernel
theorem dX9_copy_2 : decode cX9_copy 2 = .ok (.invokestatic 61, 3) := by decide +kernel
theorem dX9_copy_5 : decode cX9_copy 5 = .ok (.ifCond .eq 14, 3) := by decide +kernel
theorem dX9_copy_8 : decode cX9_copy 8 = .ok (.iload_n 2, 1) := by decide +kernel
theorem dX9_copy_9 : decode cX9_copy 9 = .ok (.invokestatic 61, 3) := by decide +kernel
theorem dX9_copy_12 : decode cX9_copy 12 = .ok (.ifCond .eq 7, 3) := by decide +kernel
theorem dX9_copy_15 : decode cX9_copy 15 = .ok (.iconst 0, 1) := by decide +kernel
theorem dX9_copy_16 : decode cX9_copy 16 = .ok (.goto 4, 3) := by decide +kernel
theorem dX9_copy_19 : decode cX9_copy 19 = .ok (.iconst 1, 1) := by decide +kernel
theorem dX9_copy_20 : decode cX9_copy 20 = .ok (.invokevirtual 39, 3) := by decide +kernel
theorem dX9_copy_23 : decode cX9_copy 23 = .ok (.ifCond .eq 5, 3) := by decide +kernel
theorem dX9_copy_26 : decode cX9_copy 26 = .ok (.iconst 0, 1) := by decide +kernel
theorem dX9_copy_27 : decode cX9_copy 27 = .ok (.ireturn, 1) := by decide +kernel
theorem dX9_copy_28 : decode cX9_copy 28 = .ok (.aload_n 0, 1) := by decide +kernel
theorem dX9_copy_29 : decode cX9_copy 29 = .ok (.invokevirtual 67, 3) := by decide +kernel
theorem dX9_copy_32 : decode cX9_copy 32 = .ok (.aload_n 0, 1) := by decide +kernel
theorem dX9_copy_33 : decode cX9_copy 33 = .ok (.iload_n 1, 1) := by decide +kernel
theorem dX9_copy_34 : decode cX9_copy 34 = .ok (.iconst (-1), 1) := by decide +kernel
theorem dX9_copy_35 : decode cX9_copy 35 = .ok (.invokevirtual 70, 3) := by decide +kernel
theorem dX9_copy_38 : decode cX9_copy 38 = .ok (.aload_n 0, 1) := by decide +kernel
theorem dX9_copy_39 : decode cX9_copy 39 = .ok (.iload_n 2, 1) := by decide +kernel
theorem dX9_copy_40 : decode cX9_copy 40 = .ok (.invokevirtual 74, 3) := by decide +kernel
theorem dX9_copy_43 : decode cX9_copy 43 = .ok (.ireturn, 1) := by decide +kernel
theorem dX9_size_0 : decode cX9_size 0 = .ok (.aload_n 0, 1) := by decide +kernel
theorem dX9_size_1 : decode cX9_size 1 = .ok (.iload_n 1, 1) := by decide +kernel
theorem dX9_size_2 : decode cX9_size 2 = .ok (.invokestatic 61, 3) := by decide +kernel
theorem dX9_size_5 : decode cX9_size 5 = .ok (.ifCond .eq 7, 3) := by decide +kernel
theorem dX9_size_8 : decode cX9_size 8 = .ok (.iconst 0, 1) := by decide +kernel
theorem dX9_size_9 : decode cX9_size 9 = .ok (.goto 4, 3) := by decide +kernel
theorem dX9_size_12 : decode cX9_size 12 = .ok (.iconst 1, 1) := by decide +kernel
theorem dX9_size_13 : decode cX9_size 13 = .ok (.invokevirtual 39, 3) := by decide +kernel
theorem dX9_size_16 : decode cX9_size 16 = .ok (.ifCond .eq 7, 3) := by decide +kernel
theorem dX9_size_19 : decode cX9_size 19 = .ok (.iconst 0, 1) := by decide +kernel
theorem dX9_size_20 : decode cX9_size 20 = .ok (.goto 8, 3) := by decide +kernel
theorem dX9_size_23 : decode cX9_size 23 = .ok (.aload_n 0, 1) := by decide +kernel
theorem dX9_size_24 : decode cX9_size 24 = .ok (.iload_n 1, 1) := by decide +kernel
theorem dX9_size_25 : decode cX9_size 25 = .ok (.invokevirtual 46, 3) := by decide +kernel
theorem dX9_size_28 : decode cX9_size 28 = .ok (.ireturn, 1) := by decide +kernel
theorem dX9_mark_0 : decode cX9_mark 0 = .ok (.aload_n 0, 1) := by decide +kernel
theorem dX9_mark_1 : decode cX9_mark 1 = .ok (.iload_n 1, 1) := by decide +kernel
theorem dX9_mark_2 : decode cX9_mark 2 = .ok (.invokestatic 61, 3) := by decide +kernel
theorem dX9_mark_5 : decode cX9_mark 5 = .ok (.ifCond .eq 22, 3) := by decide +kernel
theorem dX9_mark_8 : decode cX9_mark 8 = .ok (.iload_n 2, 1) := by decide +kernel
theorem dX9_mark_9 : decode cX9_mark 9 = .ok (.iconst 0, 1) := by decide +kernel
theorem dX9_mark_10 : decode cX9_mark 10 = .ok (.aload_n 0, 1) := by decide +kernel
theorem dX9_mark_11 : decode cX9_mark 11 = .ok (.iload_n 1, 1) := by decide +kernel
theorem dX9_mark_12 : decode cX9_mark 12 = .ok (.invokevirtual 46, 3) := by decide +kernel
theorem dX9_mark_15 : decode cX9_mark 15 = .ok (.iconst 1, 1) := by decide +kernel
theorem dX9_mark_16 : decode cX9_mark 16 = .ok (.isub, 1) := by decide +kernel
theorem dX9_mark_17 : decode cX9_mark 17 = .ok (.invokestatic 32, 3) := by decide +kernel
theorem dX9_mark_20 : decode cX9_mark 20 = .ok (.ifCond .eq 7, 3) := by decide +kernel
theorem dX9_mark_23 : decode cX9_mark 23 = .ok (.iconst 0, 1) := by decide +kernel
theorem dX9_mark_24 : decode cX9_mark 24 = .ok (.goto 4, 3) := by decide +kernel
theorem dX9_mark_27 : decode cX9_mark 27 = .ok (.iconst 1, 1) := by decide +kernel
theorem dX9_mark_28 : decode cX9_mark 28 = .ok (.invokevirtual 39, 3) := by decide +kernel
theorem dX9_mark_31 : decode cX9_mark 31 = .ok (.ifCond .eq 7, 3) := by decide +kernel
theorem dX9_mark_34 : decode cX9_mark 34 = .ok (.iconst 0, 1) := by decide +kernel
theorem dX9_mark_35 : decode cX9_mark 35 = .ok (.goto 9, 3) := by decide +kernel
theorem dX9_mark_38 : decode cX9_mark 38 = .ok (.aload_n 0, 1) := by decide +kernel
theorem dX9_mark_39 : decode cX9_mark 39 = .ok (.iload_n 1, 1) := by decide +kernel
theorem dX9_mark_40 : decode cX9_mark 40 = .ok (.iload_n 2, 1) := by decide +kernel
theorem dX9_mark_41 : decode cX9_mark 41 = .ok (.invokevirtual 50, 3) := by decide +kernel
theorem dX9_mark_44 : decode cX9_mark 44 = .ok (.ireturn, 1) := by decide +kernel
theorem dX9_length_0 : decode cX9_length 0 = .ok (.aload_n 0, 1) := by decide +kernel
theorem dX9_length_1 : decode cX9_length 1 = .ok (.iload_n 1, 1) := by decide +kernel
theorem dX9_length_2 : decode cX9_length 2 = .ok (.invokestatic 61, 3) := by decide +kernel
theorem dX9_length_5 : decode cX9_length 5 = .ok (.ifCond .eq 7, 3) := by decide +kernel
theorem dX9_length_8 : decode cX9_length 8 = .ok (.iconst 0, 1) := by decide +kernel
theorem dX9_length_9 : decode cX9_length 9 = .ok (.goto 4, 3) := by decide +kernel
theorem dX9_length_12 : decode cX9_length 12 = .ok (.iconst 1, 1) := by decide +kernel
theorem dX9_length_13 : decode cX9_length 13 = .ok (.invokevirtual 39, 3) := by decide +kernel
theorem dX9_length_16 : decode cX9_length 16 = .ok (.ifCond .eq 7, 3) := by decide +kernel
theorem dX9_length_19 : decode cX9_length 19 = .ok (.iconst 0, 1) := by decide +kernel
theorem dX9_length_20 : decode cX9_length 20 = .ok (.goto 8, 3) := by decide +kernel
theorem dX9_length_23 : decode cX9_length 23 = .ok (.aload_n 0, 1) := by decide +kernel
theorem dX9_length_24 : decode cX9_length 24 = .ok (.iload_n 1, 1) := by decide +kernel
theorem dX9_length_25 : decode cX9_length 25 = .ok (.invokevirtual 77, 3) := by decide +kernel
theorem dX9_length_28 : decode cX9_length 28 = .ok (.ireturn, 1) := by decide +kernel
theorem dX9_pairs_0 : decode cX9_pairs 0 = .ok (.iconst 0, 1) := by decide +kernel
theorem dX9_pairs_1 : decode cX9_pairs 1 = .ok (.istore_n 3, 1) := by decide +kernel
theorem dX9_pairs_2 : decode cX9_pairs 2 = .ok (.iconst 0, 1) := by decide +kernel
theorem dX9_pairs_3 : decode cX9_pairs 3 = .ok (.istore 4, 2) := by decide +kernel
theorem dX9_pairs_5 : decode cX9_pairs 5 = .ok (.iload 4, 2) := by decide +kernel
theorem dX9_pairs_7 : decode cX9_pairs 7 = .ok (.aload_n 0, 1) := by decide +kernel
theorem dX9_pairs_8 : decode cX9_pairs 8 = .ok (.iload_n 1, 1) := by decide +kernel
theorem dX9_pairs_9 : decode cX9_pairs 9 = .ok (.invokevirtual 46, 3) := by decide +kernel
theorem dX9_pairs_12 : decode cX9_pairs 12 = .ok (.if_icmp .ge 52, 3) := by decide +kernel
theorem dX9_pairs_15 : decode cX9_pairs 15 = .ok (.iconst 0, 1) := by decide +kernel
theorem dX9_pairs_16 : decode cX9_pairs 16 = .ok (.istore 5, 2) := by decide +kernel
theorem dX9_pairs_18 : decode cX9_pairs 18 = .ok (.iload 5, 2) := by decide +kernel
theorem dX9_pairs_20 : decode cX9_pairs 20 = .ok (.iload 4, 2) := by decide +kernel
theorem dX9_pairs_22 : decode cX9_pairs 22 = .ok (.if_icmp .ge 36, 3) := by decide +kernel
theorem dX9_pairs_25 : decode cX9_pairs 25 = .ok (.iload_n 3, 1) := by decide +kernel
theorem dX9_pairs_26 : decode cX9_pairs 26 = .ok (.aload_n 0, 1) := by decide +kernel
theorem dX9_pairs_27 : decode cX9_pairs 27 = .ok (.iload_n 1, 1) := by decide +kernel
theorem dX9_pairs_28 : decode cX9_pairs 28 = .ok (.iload 4, 2) := by decide +kernel
theorem dX9_pairs_30 : decode cX9_pairs 30 = .ok (.invokevirtual 50, 3) := by decide +kernel
theorem dX9_pairs_33 : decode cX9_pairs 33 = .ok (.aload_n 0, 1) := by decide +kernel
theorem dX9_pairs_34 : decode cX9_pairs 34 = .ok (.iload_n 1, 1) := by decide +kernel
theorem dX9_pairs_35 : decode cX9_pairs 35 = .ok (.iload 5, 2) := by decide +kernel
theorem dX9_pairs_37 : decode cX9_pairs 37 = .ok (.invokevirtual 50, 3) := by decide +kernel
theorem dX9_pairs_40 : decode cX9_pairs 40 = .ok (.isub, 1) := by decide +kernel
theorem dX9_pairs_41 : decode cX9_pairs 41 = .ok (.iload_n 2, 1) := by decide +kernel
theorem dX9_pairs_42 : decode cX9_pairs 42 = .ok (.if_icmp .ne 7, 3) := by decide +kernel
theorem dX9_pairs_45 : decode cX9_pairs 45 = .ok (.iconst 1, 1) := by decide +kernel
theorem dX9_pairs_46 : decode cX9_pairs 46 = .ok (.goto 4, 3) := by decide +kernel
theorem dX9_pairs_49 : decode cX9_pairs 49 = .ok (.iconst 0, 1) := by decide +kernel
theorem dX9_pairs_50 : decode cX9_pairs 50 = .ok (.iadd, 1) := by decide +kernel
theorem dX9_pairs_51 : decode cX9_pairs 51 = .ok (.istore_n 3, 1) := by decide +kernel
theorem dX9_pairs_52 : decode cX9_pairs 52 = .ok (.iinc 5 1, 3) := by decide +kernel
theorem dX9_pairs_55 : decode cX9_pairs 55 = .ok (.goto (-37), 3) := by decide +kernel
theorem dX9_pairs_58 : decode cX9_pairs 58 = .ok (.iinc 4 1, 3) := by decide +kernel
theorem dX9_pairs_61 : decode cX9_pairs 61 = .ok (.goto (-56), 3) := by decide +kernel
theorem dX9_pairs_64 : decode cX9_pairs 64 = .ok (.iload_n 3, 1) := by decide +kernel
theorem dX9_pairs_65 : decode cX9_pairs 65 = .ok (.ireturn, 1) := by decide +kernel
theorem dX9_multiplicity_0 : decode cX9_multiplicity 0 = .ok (.aload_n 0, 1) := by decide +kernel
theorem dX9_multiplicity_1 : decode cX9_multiplicity 1 = .ok (.iload_n 1, 1) := by decide +kernel
theorem dX9_multiplicity_2 : decode cX9_multiplicity 2 = .ok (.invokestatic 61, 3) := by decide +kernel
theorem dX9_multiplicity_5 : decode cX9_multiplicity 5 = .ok (.ifCond .ne 7, 3) := by decide +kernel
theorem dX9_multiplicity_8 : decode cX9_multiplicity 8 = .ok (.iconst 1, 1) := by decide +kernel
theorem dX9_multiplicity_9 : decode cX9_multiplicity 9 = .ok (.goto 19, 3) := by decide +kernel
theorem dX9_multiplicity_12 : decode cX9_multiplicity 12 = .ok (.iload_n 2, 1) := by decide +kernel
theorem dX9_multiplicity_13 : decode cX9_multiplicity 13 = .ok (.iconst 1, 1) := by decide +kernel
theorem dX9_multiplicity_14 : decode cX9_multiplicity 14 = .ok (.sipush 2000, 3) := by decide +kernel
theorem dX9_multiplicity_17 : decode cX9_multiplicity 17 = .ok (.invokestatic 32, 3) := by decide +kernel
theorem dX9_multiplicity_20 : decode cX9_multiplicity 20 = .ok (.ifCond .eq 7, 3) := by decide +kernel
theorem dX9_multiplicity_23 : decode cX9_multiplicity 23 = .ok (.iconst 0, 1) := by decide +kernel
theorem dX9_multiplicity_24 : decode cX9_multiplicity 24 = .ok (.goto 4, 3) := by decide +kernel
theorem dX9_multiplicity_27 : decode cX9_multiplicity 27 = .ok (.iconst 2, 1) := by decide +kernel
theorem dX9_multiplicity_28 : decode cX9_multiplicity 28 = .ok (.invokevirtual 39, 3) := by decide +kernel
theorem dX9_multiplicity_31 : decode cX9_multiplicity 31 = .ok (.ifCond .eq 7, 3) := by decide +kernel
theorem dX9_multiplicity_34 : decode cX9_multiplicity 34 = .ok (.iconst 0, 1) := by decide +kernel
theorem dX9_multiplicity_35 : decode cX9_multiplicity 35 = .ok (.goto 9, 3) := by decide +kernel
theorem dX9_multiplicity_38 : decode cX9_multiplicity 38 = .ok (.aload_n 0, 1) := by decide +kernel
theorem dX9_multiplicity_39 : decode cX9_multiplicity 39 = .ok (.iload_n 1, 1) := by decide +kernel
theorem dX9_multiplicity_40 : decode cX9_multiplicity 40 = .ok (.iload_n 2, 1) := by decide +kernel
theorem dX9_multiplicity_41 : decode cX9_multiplicity 41 = .ok (.invokevirtual 80, 3) := by decide +kernel
theorem dX9_multiplicity_44 : decode cX9_multiplicity 44 = .ok (.ireturn, 1) := by decide +kernel
theorem dX9_counts_0 : decode cX9_counts 0 = .ok (.iconst 0, 1) := by decide +kernel
theorem dX9_counts_1 : decode cX9_counts 1 = .ok (.istore_n 2, 1) := by decide +kernel
theorem dX9_counts_2 : decode cX9_counts 2 = .ok (.iload_n 2, 1) := by decide +kernel
theorem dX9_counts_3 : decode cX9_counts 3 = .ok (.aload_n 0, 1) := by decide +kernel
theorem dX9_counts_4 : decode cX9_counts 4 = .ok (.iload_n 1, 1) := by decide +kernel
theorem dX9_counts_5 : decode cX9_counts 5 = .ok (.invokevirtual 46, 3) := by decide +kernel
theorem dX9_counts_8 : decode cX9_counts 8 = .ok (.if_icmp .ge 44, 3) := by decide +kernel
theorem dX9_counts_11 : decode cX9_counts 11 = .ok (.iconst 0, 1) := by decide +kernel
theorem dX9_counts_12 : decode cX9_counts 12 = .ok (.istore_n 3, 1) := by decide +kernel
theorem dX9_counts_13 : decode cX9_counts 13 = .ok (.iload_n 3, 1) := by decide +kernel
theorem dX9_counts_14 : decode cX9_counts 14 = .ok (.iload_n 2, 1) := by decide +kernel
theorem dX9_counts_15 : decode cX9_counts 15 = .ok (.if_icmp .ge 31, 3) := by decide +kernel
theorem dX9_counts_18 : decode cX9_counts 18 = .ok (.aload_n 0, 1) := by decide +kernel
theorem dX9_counts_19 : decode cX9_counts 19 = .ok (.getfield 19, 3) := by decide +kernel
theorem dX9_counts_22 : decode cX9_counts 22 = .ok (.aload_n 0, 1) := by decide +kernel
theorem dX9_counts_23 : decode cX9_counts 23 = .ok (.iload_n 1, 1) := by decide +kernel
theorem dX9_counts_24 : decode cX9_counts 24 = .ok (.iload_n 2, 1) := by decide +kernel
theorem dX9_counts_25 : decode cX9_counts 25 = .ok (.invokevirtual 50, 3) := by decide +kernel
theorem dX9_counts_28 : decode cX9_counts 28 = .ok (.aload_n 0, 1) := by decide +kernel
theorem dX9_counts_29 : decode cX9_counts 29 = .ok (.iload_n 1, 1) := by decide +kernel
theorem dX9_counts_30 : decode cX9_counts 30 = .ok (.iload_n 3, 1) := by decide +kernel
theorem dX9_counts_31 : decode cX9_counts 31 = .ok (.invokevirtual 50, 3) := by decide +kernel
theorem dX9_counts_34 : decode cX9_counts 34 = .ok (.isub, 1) := by decide +kernel
theorem dX9_counts_35 : decode cX9_counts 35 = .ok (.dup2, 1) := by decide +kernel
theorem dX9_counts_36 : decode cX9_counts 36 = .ok (.iaload, 1) := by decide +kernel
theorem dX9_counts_37 : decode cX9_counts 37 = .ok (.iconst 1, 1) := by decide +kernel
theorem dX9_counts_38 : decode cX9_counts 38 = .ok (.iadd, 1) := by decide +kernel
theorem dX9_counts_39 : decode cX9_counts 39 = .ok (.iastore, 1) := by decide +kernel
theorem dX9_counts_40 : decode cX9_counts 40 = .ok (.iinc 3 1, 3) := by decide +kernel
theorem dX9_counts_43 : decode cX9_counts 43 = .ok (.goto (-30), 3) := by decide +kernel
theorem dX9_counts_46 : decode cX9_counts 46 = .ok (.iinc 2 1, 3) := by decide +kernel
theorem dX9_counts_49 : decode cX9_counts 49 = .ok (.goto (-47), 3) := by decide +kernel
theorem dX9_counts_52 : decode cX9_counts 52 = .ok (.return_, 1) := by decide +kernel
theorem dX9_laysOften_0 : decode cX9_laysOften 0 = .ok (.iconst 0, 1) := by decide +kernel
theorem dX9_laysOften_1 : decode cX9_laysOften 1 = .ok (.istore_n 2, 1) := by decide +kernel
theorem dX9_laysOften_2 : decode cX9_laysOften 2 = .ok (.iload_n 2, 1) := by decide +kernel
theorem dX9_laysOften_3 : decode cX9_laysOften 3 = .ok (.sipush 2000, 3) := by decide +kernel
theorem dX9_laysOften_6 : decode cX9_laysOften 6 = .ok (.if_icmp .gt 16, 3) := by decide +kernel
theorem dX9_laysOften_9 : decode cX9_laysOften 9 = .ok (.aload_n 0, 1) := by decide +kernel
theorem dX9_laysOften_10 : decode cX9_laysOften 10 = .ok (.getfield 19, 3) := by decide +kernel
theorem dX9_laysOften_13 : decode cX9_laysOften 13 = .ok (.iload_n 2, 1) := by decide +kernel
theorem dX9_laysOften_14 : decode cX9_laysOften 14 = .ok (.iconst 0, 1) := by decide +kernel
theorem dX9_laysOften_15 : decode cX9_laysOften 15 = .ok (.iastore, 1) := by decide +kernel
theorem dX9_laysOften_16 : decode cX9_laysOften 16 = .ok (.iinc 2 1, 3) := by decide +kernel
theorem dX9_laysOften_19 : decode cX9_laysOften 19 = .ok (.goto (-17), 3) := by decide +kernel
theorem dX9_laysOften_22 : decode cX9_laysOften 22 = .ok (.iconst 0, 1) := by decide +kernel
theorem dX9_laysOften_23 : decode cX9_laysOften 23 = .ok (.istore_n 2, 1) := by decide +kernel
theorem dX9_laysOften_24 : decode cX9_laysOften 24 = .ok (.iload_n 2, 1) := by decide +kernel
theorem dX9_laysOften_25 : decode cX9_laysOften 25 = .ok (.iconst 4, 1) := by decide +kernel
theorem dX9_laysOften_26 : decode cX9_laysOften 26 = .ok (.if_icmp .ge 23, 3) := by decide +kernel
theorem dX9_laysOften_29 : decode cX9_laysOften 29 = .ok (.iload_n 1, 1) := by decide +kernel
theorem dX9_laysOften_30 : decode cX9_laysOften 30 = .ok (.iload_n 2, 1) := by decide +kernel
theorem dX9_laysOften_31 : decode cX9_laysOften 31 = .ok (.ishr, 1) := by decide +kernel
theorem dX9_laysOften_32 : decode cX9_laysOften 32 = .ok (.iconst 1, 1) := by decide +kernel
theorem dX9_laysOften_33 : decode cX9_laysOften 33 = .ok (.iand, 1) := by decide +kernel
theorem dX9_laysOften_34 : decode cX9_laysOften 34 = .ok (.iconst 1, 1) := by decide +kernel
theorem dX9_laysOften_35 : decode cX9_laysOften 35 = .ok (.if_icmp .ne 8, 3) := by decide +kernel
theorem dX9_laysOften_38 : decode cX9_laysOften 38 = .ok (.aload_n 0, 1) := by decide +kernel
theorem dX9_laysOften_39 : decode cX9_laysOften 39 = .ok (.iload_n 2, 1) := by decide +kernel
theorem dX9_laysOften_40 : decode cX9_laysOften 40 = .ok (.invokevirtual 83, 3) := by decide +kernel
theorem dX9_laysOften_43 : decode cX9_laysOften 43 = .ok (.iinc 2 1, 3) := by decide +kernel
theorem dX9_laysOften_46 : decode cX9_laysOften 46 = .ok (.goto (-22), 3) := by decide +kernel
theorem dX9_laysOften_49 : decode cX9_laysOften 49 = .ok (.return_, 1) := by decide +kernel
theorem dX9_areOnce_0 : decode cX9_areOnce 0 = .ok (.aload_n 0, 1) := by decide +kernel
theorem dX9_areOnce_1 : decode cX9_areOnce 1 = .ok (.iload_n 1, 1) := by decide +kernel
theorem dX9_areOnce_2 : decode cX9_areOnce 2 = .ok (.invokevirtual 86, 3) := by decide +kernel
theorem dX9_areOnce_5 : decode cX9_areOnce 5 = .ok (.iconst 1, 1) := by decide +kernel
theorem dX9_areOnce_6 : decode cX9_areOnce 6 = .ok (.istore_n 2, 1) := by decide +kernel
theorem dX9_areOnce_7 : decode cX9_areOnce 7 = .ok (.iconst 1, 1) := by decide +kernel
theorem dX9_areOnce_8 : decode cX9_areOnce 8 = .ok (.istore_n 3, 1) := by decide +kernel
theorem dX9_areOnce_9 : decode cX9_areOnce 9 = .ok (.iload_n 3, 1) := by decide +kernel
theorem dX9_areOnce_10 : decode cX9_areOnce 10 = .ok (.sipush 2000, 3) := by decide +kernel
theorem dX9_areOnce_13 : decode cX9_areOnce 13 = .ok (.if_icmp .gt 29, 3) := by decide +kernel
theorem dX9_areOnce_16 : decode cX9_areOnce 16 = .ok (.iload_n 2, 1) := by decide +kernel
theorem dX9_areOnce_17 : decode cX9_areOnce 17 = .ok (.ifCond .eq 17, 3) := by decide +kernel
theorem dX9_areOnce_20 : decode cX9_areOnce 20 = .ok (.aload_n 0, 1) := by decide +kernel
theorem dX9_areOnce_21 : decode cX9_areOnce 21 = .ok (.getfield 19, 3) := by decide +kernel
theorem dX9_areOnce_24 : decode cX9_areOnce 24 = .ok (.iload_n 3, 1) := by decide +kernel
theorem dX9_areOnce_25 : decode cX9_areOnce 25 = .ok (.iaload, 1) := by decide +kernel
theorem dX9_areOnce_26 : decode cX9_areOnce 26 = .ok (.iconst 2, 1) := by decide +kernel
theorem dX9_areOnce_27 : decode cX9_areOnce 27 = .ok (.if_icmp .ge 7, 3) := by decide +kernel
theorem dX9_areOnce_30 : decode cX9_areOnce 30 = .ok (.iconst 1, 1) := by decide +kernel
theorem dX9_areOnce_31 : decode cX9_areOnce 31 = .ok (.goto 4, 3) := by decide +kernel
theorem dX9_areOnce_34 : decode cX9_areOnce 34 = .ok (.iconst 0, 1) := by decide +kernel
theorem dX9_areOnce_35 : decode cX9_areOnce 35 = .ok (.istore_n 2, 1) := by decide +kernel
theorem dX9_areOnce_36 : decode cX9_areOnce 36 = .ok (.iinc 3 1, 3) := by decide +kernel
theorem dX9_areOnce_39 : decode cX9_areOnce 39 = .ok (.goto (-30), 3) := by decide +kernel
theorem dX9_areOnce_42 : decode cX9_areOnce 42 = .ok (.iload_n 2, 1) := by decide +kernel
theorem dX9_areOnce_43 : decode cX9_areOnce 43 = .ok (.ireturn, 1) := by decide +kernel
theorem dX9_isRuler_0 : decode cX9_isRuler 0 = .ok (.aload_n 0, 1) := by decide +kernel
theorem dX9_isRuler_1 : decode cX9_isRuler 1 = .ok (.iload_n 1, 1) := by decide +kernel
theorem dX9_isRuler_2 : decode cX9_isRuler 2 = .ok (.invokestatic 61, 3) := by decide +kernel
theorem dX9_isRuler_5 : decode cX9_isRuler 5 = .ok (.ifCond .eq 7, 3) := by decide +kernel
theorem dX9_isRuler_8 : decode cX9_isRuler 8 = .ok (.iconst 0, 1) := by decide +kernel
theorem dX9_isRuler_9 : decode cX9_isRuler 9 = .ok (.goto 4, 3) := by decide +kernel
theorem dX9_isRuler_12 : decode cX9_isRuler 12 = .ok (.iconst 1, 1) := by decide +kernel
theorem dX9_isRuler_13 : decode cX9_isRuler 13 = .ok (.invokevirtual 39, 3) := by decide +kernel
theorem dX9_isRuler_16 : decode cX9_isRuler 16 = .ok (.ifCond .ne 17, 3) := by decide +kernel
theorem dX9_isRuler_19 : decode cX9_isRuler 19 = .ok (.aload_n 0, 1) := by decide +kernel
theorem dX9_isRuler_20 : decode cX9_isRuler 20 = .ok (.iconst 1, 1) := by decide +kernel
theorem dX9_isRuler_21 : decode cX9_isRuler 21 = .ok (.iload_n 1, 1) := by decide +kernel
theorem dX9_isRuler_22 : decode cX9_isRuler 22 = .ok (.ishl, 1) := by decide +kernel
theorem dX9_isRuler_23 : decode cX9_isRuler 23 = .ok (.invokevirtual 89, 3) := by decide +kernel
theorem dX9_isRuler_26 : decode cX9_isRuler 26 = .ok (.ifCond .eq 7, 3) := by decide +kernel
theorem dX9_isRuler_29 : decode cX9_isRuler 29 = .ok (.iconst 1, 1) := by decide +kernel
theorem dX9_isRuler_30 : decode cX9_isRuler 30 = .ok (.goto 4, 3) := by decide +kernel
theorem dX9_isRuler_33 : decode cX9_isRuler 33 = .ok (.iconst 0, 1) := by decide +kernel
theorem dX9_isRuler_34 : decode cX9_isRuler 34 = .ok (.ireturn, 1) := by decide +kernel
theorem dX9_complete_0 : decode cX9_complete 0 = .ok (.aload_n 0, 1) := by decide +kernel
theorem dX9_complete_1 : decode cX9_complete 1 = .ok (.iconst 1, 1) := by decide +kernel
theorem dX9_complete_2 : decode cX9_complete 2 = .ok (.iload_n 1, 1) := by decide +kernel
theorem dX9_complete_3 : decode cX9_complete 3 = .ok (.ishl, 1) := by decide +kernel
theorem dX9_complete_4 : decode cX9_complete 4 = .ok (.invokevirtual 86, 3) := by decide +kernel
theorem dX9_complete_7 : decode cX9_complete 7 = .ok (.iconst 0, 1) := by decide +kernel
theorem dX9_complete_8 : decode cX9_complete 8 = .ok (.istore_n 2, 1) := by decide +kernel
theorem dX9_complete_9 : decode cX9_complete 9 = .ok (.iload_n 2, 1) := by decide +kernel
theorem dX9_complete_10 : decode cX9_complete 10 = .ok (.sipush 2000, 3) := by decide +kernel
theorem dX9_complete_13 : decode cX9_complete 13 = .ok (.if_icmp .ge 20, 3) := by decide +kernel
theorem dX9_complete_16 : decode cX9_complete 16 = .ok (.aload_n 0, 1) := by decide +kernel
theorem dX9_complete_17 : decode cX9_complete 17 = .ok (.getfield 19, 3) := by decide +kernel
theorem dX9_complete_20 : decode cX9_complete 20 = .ok (.iload_n 2, 1) := by decide +kernel
theorem dX9_complete_21 : decode cX9_complete 21 = .ok (.iconst 1, 1) := by decide +kernel
theorem dX9_complete_22 : decode cX9_complete 22 = .ok (.iadd, 1) := by decide +kernel
theorem dX9_complete_23 : decode cX9_complete 23 = .ok (.iaload, 1) := by decide +kernel
theorem dX9_complete_24 : decode cX9_complete 24 = .ok (.ifCond .le 9, 3) := by decide +kernel
