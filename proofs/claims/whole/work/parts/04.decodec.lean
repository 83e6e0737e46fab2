theorem dX9_complete_27 : decode cX9_complete 27 = .ok (.iinc 2 1, 3) := by decide +kernel
theorem dX9_complete_30 : decode cX9_complete 30 = .ok (.goto (-21), 3) := by decide +kernel
theorem dX9_complete_33 : decode cX9_complete 33 = .ok (.iload_n 2, 1) := by decide +kernel
theorem dX9_complete_34 : decode cX9_complete 34 = .ok (.ireturn, 1) := by decide +kernel
theorem dX9_completeUpTo_0 : decode cX9_completeUpTo 0 = .ok (.aload_n 0, 1) := by decide +kernel
theorem dX9_completeUpTo_1 : decode cX9_completeUpTo 1 = .ok (.iload_n 1, 1) := by decide +kernel
theorem dX9_completeUpTo_2 : decode cX9_completeUpTo 2 = .ok (.invokestatic 61, 3) := by decide +kernel
theorem dX9_completeUpTo_5 : decode cX9_completeUpTo 5 = .ok (.ifCond .eq 7, 3) := by decide +kernel
theorem dX9_completeUpTo_8 : decode cX9_completeUpTo 8 = .ok (.iconst 0, 1) := by decide +kernel
theorem dX9_completeUpTo_9 : decode cX9_completeUpTo 9 = .ok (.goto 4, 3) := by decide +kernel
theorem dX9_completeUpTo_12 : decode cX9_completeUpTo 12 = .ok (.iconst 1, 1) := by decide +kernel
theorem dX9_completeUpTo_13 : decode cX9_completeUpTo 13 = .ok (.invokevirtual 39, 3) := by decide +kernel
theorem dX9_completeUpTo_16 : decode cX9_completeUpTo 16 = .ok (.ifCond .eq 7, 3) := by decide +kernel
theorem dX9_completeUpTo_19 : decode cX9_completeUpTo 19 = .ok (.iconst 0, 1) := by decide +kernel
theorem dX9_completeUpTo_20 : decode cX9_completeUpTo 20 = .ok (.goto 8, 3) := by decide +kernel
theorem dX9_completeUpTo_23 : decode cX9_completeUpTo 23 = .ok (.aload_n 0, 1) := by decide +kernel
theorem dX9_completeUpTo_24 : decode cX9_completeUpTo 24 = .ok (.iload_n 1, 1) := by decide +kernel
theorem dX9_completeUpTo_25 : decode cX9_completeUpTo 25 = .ok (.invokevirtual 92, 3) := by decide +kernel
theorem dX9_completeUpTo_28 : decode cX9_completeUpTo 28 = .ok (.ireturn, 1) := by decide +kernel
theorem dX9_unlike_0 : decode cX9_unlike 0 = .ok (.aload_n 0, 1) := by decide +kernel
theorem dX9_unlike_1 : decode cX9_unlike 1 = .ok (.iconst 1, 1) := by decide +kernel
theorem dX9_unlike_2 : decode cX9_unlike 2 = .ok (.iload_n 1, 1) := by decide +kernel
theorem dX9_unlike_3 : decode cX9_unlike 3 = .ok (.ishl, 1) := by decide +kernel
theorem dX9_unlike_4 : decode cX9_unlike 4 = .ok (.invokevirtual 86, 3) := by decide +kernel
theorem dX9_unlike_7 : decode cX9_unlike 7 = .ok (.iconst 0, 1) := by decide +kernel
theorem dX9_unlike_8 : decode cX9_unlike 8 = .ok (.istore_n 2, 1) := by decide +kernel
theorem dX9_unlike_9 : decode cX9_unlike 9 = .ok (.iconst 1, 1) := by decide +kernel
theorem dX9_unlike_10 : decode cX9_unlike 10 = .ok (.istore_n 3, 1) := by decide +kernel
theorem dX9_unlike_11 : decode cX9_unlike 11 = .ok (.iload_n 3, 1) := by decide +kernel
theorem dX9_unlike_12 : decode cX9_unlike 12 = .ok (.sipush 2000, 3) := by decide +kernel
theorem dX9_unlike_15 : decode cX9_unlike 15 = .ok (.if_icmp .gt 26, 3) := by decide +kernel
theorem dX9_unlike_18 : decode cX9_unlike 18 = .ok (.iload_n 2, 1) := by decide +kernel
theorem dX9_unlike_19 : decode cX9_unlike 19 = .ok (.aload_n 0, 1) := by decide +kernel
theorem dX9_unlike_20 : decode cX9_unlike 20 = .ok (.getfield 19, 3) := by decide +kernel
theorem dX9_unlike_23 : decode cX9_unlike 23 = .ok (.iload_n 3, 1) := by decide +kernel
theorem dX9_unlike_24 : decode cX9_unlike 24 = .ok (.iaload, 1) := by decide +kernel
theorem dX9_unlike_25 : decode cX9_unlike 25 = .ok (.ifCond .le 7, 3) := by decide +kernel
theorem dX9_unlike_28 : decode cX9_unlike 28 = .ok (.iconst 1, 1) := by decide +kernel
theorem dX9_unlike_29 : decode cX9_unlike 29 = .ok (.goto 4, 3) := by decide +kernel
theorem dX9_unlike_32 : decode cX9_unlike 32 = .ok (.iconst 0, 1) := by decide +kernel
theorem dX9_unlike_33 : decode cX9_unlike 33 = .ok (.iadd, 1) := by decide +kernel
theorem dX9_unlike_34 : decode cX9_unlike 34 = .ok (.istore_n 2, 1) := by decide +kernel
theorem dX9_unlike_35 : decode cX9_unlike 35 = .ok (.iinc 3 1, 3) := by decide +kernel
theorem dX9_unlike_38 : decode cX9_unlike 38 = .ok (.goto (-27), 3) := by decide +kernel
theorem dX9_unlike_41 : decode cX9_unlike 41 = .ok (.iload_n 2, 1) := by decide +kernel
theorem dX9_unlike_42 : decode cX9_unlike 42 = .ok (.ireturn, 1) := by decide +kernel
theorem dX9_differences_0 : decode cX9_differences 0 = .ok (.aload_n 0, 1) := by decide +kernel
theorem dX9_differences_1 : decode cX9_differences 1 = .ok (.iload_n 1, 1) := by decide +kernel
theorem dX9_differences_2 : decode cX9_differences 2 = .ok (.invokestatic 61, 3) := by decide +kernel
theorem dX9_differences_5 : decode cX9_differences 5 = .ok (.ifCond .eq 7, 3) := by decide +kernel
theorem dX9_differences_8 : decode cX9_differences 8 = .ok (.iconst 0, 1) := by decide +kernel
theorem dX9_differences_9 : decode cX9_differences 9 = .ok (.goto 4, 3) := by decide +kernel
theorem dX9_differences_12 : decode cX9_differences 12 = .ok (.iconst 1, 1) := by decide +kernel
theorem dX9_differences_13 : decode cX9_differences 13 = .ok (.invokevirtual 39, 3) := by decide +kernel
theorem dX9_differences_16 : decode cX9_differences 16 = .ok (.ifCond .eq 7, 3) := by decide +kernel
theorem dX9_differences_19 : decode cX9_differences 19 = .ok (.iconst 0, 1) := by decide +kernel
theorem dX9_differences_20 : decode cX9_differences 20 = .ok (.goto 8, 3) := by decide +kernel
theorem dX9_differences_23 : decode cX9_differences 23 = .ok (.aload_n 0, 1) := by decide +kernel
theorem dX9_differences_24 : decode cX9_differences 24 = .ok (.iload_n 1, 1) := by decide +kernel
theorem dX9_differences_25 : decode cX9_differences 25 = .ok (.invokevirtual 95, 3) := by decide +kernel
theorem dX9_differences_28 : decode cX9_differences 28 = .ok (.ireturn, 1) := by decide +kernel
theorem dX9_isFamily_0 : decode cX9_isFamily 0 = .ok (.aload_n 0, 1) := by decide +kernel
theorem dX9_isFamily_1 : decode cX9_isFamily 1 = .ok (.iload_n 1, 1) := by decide +kernel
theorem dX9_isFamily_2 : decode cX9_isFamily 2 = .ok (.iconst 0, 1) := by decide +kernel
theorem dX9_isFamily_3 : decode cX9_isFamily 3 = .ok (.bipush 15, 2) := by decide +kernel
theorem dX9_isFamily_5 : decode cX9_isFamily 5 = .ok (.invokestatic 32, 3) := by decide +kernel
theorem dX9_isFamily_8 : decode cX9_isFamily 8 = .ok (.ifCond .eq 7, 3) := by decide +kernel
theorem dX9_isFamily_11 : decode cX9_isFamily 11 = .ok (.iconst 0, 1) := by decide +kernel
theorem dX9_isFamily_12 : decode cX9_isFamily 12 = .ok (.goto 4, 3) := by decide +kernel
theorem dX9_isFamily_15 : decode cX9_isFamily 15 = .ok (.iconst 1, 1) := by decide +kernel
theorem dX9_isFamily_16 : decode cX9_isFamily 16 = .ok (.invokevirtual 39, 3) := by decide +kernel
theorem dX9_isFamily_19 : decode cX9_isFamily 19 = .ok (.ifCond .ne 15, 3) := by decide +kernel
theorem dX9_isFamily_22 : decode cX9_isFamily 22 = .ok (.aload_n 0, 1) := by decide +kernel
theorem dX9_isFamily_23 : decode cX9_isFamily 23 = .ok (.iload_n 1, 1) := by decide +kernel
theorem dX9_isFamily_24 : decode cX9_isFamily 24 = .ok (.invokevirtual 89, 3) := by decide +kernel
theorem dX9_isFamily_27 : decode cX9_isFamily 27 = .ok (.ifCond .eq 7, 3) := by decide +kernel
theorem dX9_isFamily_30 : decode cX9_isFamily 30 = .ok (.iconst 1, 1) := by decide +kernel
theorem dX9_isFamily_31 : decode cX9_isFamily 31 = .ok (.goto 4, 3) := by decide +kernel
theorem dX9_isFamily_34 : decode cX9_isFamily 34 = .ok (.iconst 0, 1) := by decide +kernel
theorem dX9_isFamily_35 : decode cX9_isFamily 35 = .ok (.ireturn, 1) := by decide +kernel
theorem dX9_setModulus_0 : decode cX9_setModulus 0 = .ok (.aload_n 0, 1) := by decide +kernel
theorem dX9_setModulus_1 : decode cX9_setModulus 1 = .ok (.iload_n 1, 1) := by decide +kernel
theorem dX9_setModulus_2 : decode cX9_setModulus 2 = .ok (.iconst 2, 1) := by decide +kernel
theorem dX9_setModulus_3 : decode cX9_setModulus 3 = .ok (.sipush 1000, 3) := by decide +kernel
theorem dX9_setModulus_6 : decode cX9_setModulus 6 = .ok (.invokestatic 32, 3) := by decide +kernel
theorem dX9_setModulus_9 : decode cX9_setModulus 9 = .ok (.ifCond .eq 7, 3) := by decide +kernel
theorem dX9_setModulus_12 : decode cX9_setModulus 12 = .ok (.iconst 0, 1) := by decide +kernel
theorem dX9_setModulus_13 : decode cX9_setModulus 13 = .ok (.goto 4, 3) := by decide +kernel
theorem dX9_setModulus_16 : decode cX9_setModulus 16 = .ok (.iconst 1, 1) := by decide +kernel
theorem dX9_setModulus_17 : decode cX9_setModulus 17 = .ok (.invokevirtual 39, 3) := by decide +kernel
theorem dX9_setModulus_20 : decode cX9_setModulus 20 = .ok (.ifCond .eq 5, 3) := by decide +kernel
theorem dX9_setModulus_23 : decode cX9_setModulus 23 = .ok (.iconst 0, 1) := by decide +kernel
theorem dX9_setModulus_24 : decode cX9_setModulus 24 = .ok (.ireturn, 1) := by decide +kernel
theorem dX9_setModulus_25 : decode cX9_setModulus 25 = .ok (.aload_n 0, 1) := by decide +kernel
theorem dX9_setModulus_26 : decode cX9_setModulus 26 = .ok (.invokevirtual 67, 3) := by decide +kernel
theorem dX9_setModulus_29 : decode cX9_setModulus 29 = .ok (.aload_n 0, 1) := by decide +kernel
theorem dX9_setModulus_30 : decode cX9_setModulus 30 = .ok (.invokevirtual 98, 3) := by decide +kernel
theorem dX9_setModulus_33 : decode cX9_setModulus 33 = .ok (.istore_n 2, 1) := by decide +kernel
theorem dX9_setModulus_34 : decode cX9_setModulus 34 = .ok (.aload_n 0, 1) := by decide +kernel
theorem dX9_setModulus_35 : decode cX9_setModulus 35 = .ok (.getfield 7, 3) := by decide +kernel
theorem dX9_setModulus_38 : decode cX9_setModulus 38 = .ok (.iconst 0, 1) := by decide +kernel
theorem dX9_setModulus_39 : decode cX9_setModulus 39 = .ok (.iload_n 1, 1) := by decide +kernel
theorem dX9_setModulus_40 : decode cX9_setModulus 40 = .ok (.iastore, 1) := by decide +kernel
theorem dX9_setModulus_41 : decode cX9_setModulus 41 = .ok (.iload_n 2, 1) := by decide +kernel
theorem dX9_setModulus_42 : decode cX9_setModulus 42 = .ok (.ireturn, 1) := by decide +kernel
theorem dX9_isLow_0 : decode cX9_isLow 0 = .ok (.aload_n 0, 1) := by decide +kernel
theorem dX9_isLow_1 : decode cX9_isLow 1 = .ok (.iload_n 1, 1) := by decide +kernel
theorem dX9_isLow_2 : decode cX9_isLow 2 = .ok (.invokevirtual 46, 3) := by decide +kernel
theorem dX9_isLow_5 : decode cX9_isLow 5 = .ok (.ifCond .eq 22, 3) := by decide +kernel
theorem dX9_isLow_8 : decode cX9_isLow 8 = .ok (.aload_n 0, 1) := by decide +kernel
theorem dX9_isLow_9 : decode cX9_isLow 9 = .ok (.iload_n 1, 1) := by decide +kernel
theorem dX9_isLow_10 : decode cX9_isLow 10 = .ok (.aload_n 0, 1) := by decide +kernel
theorem dX9_isLow_11 : decode cX9_isLow 11 = .ok (.iload_n 1, 1) := by decide +kernel
theorem dX9_isLow_12 : decode cX9_isLow 12 = .ok (.invokevirtual 46, 3) := by decide +kernel
theorem dX9_isLow_15 : decode cX9_isLow 15 = .ok (.iconst 1, 1) := by decide +kernel
theorem dX9_isLow_16 : decode cX9_isLow 16 = .ok (.isub, 1) := by decide +kernel
theorem dX9_isLow_17 : decode cX9_isLow 17 = .ok (.invokevirtual 50, 3) := by decide +kernel
theorem dX9_isLow_20 : decode cX9_isLow 20 = .ok (.aload_n 0, 1) := by decide +kernel
theorem dX9_isLow_21 : decode cX9_isLow 21 = .ok (.invokevirtual 98, 3) := by decide +kernel
theorem dX9_isLow_24 : decode cX9_isLow 24 = .ok (.if_icmp .ge 7, 3) := by decide +kernel
theorem dX9_isLow_27 : decode cX9_isLow 27 = .ok (.iconst 1, 1) := by decide +kernel
theorem dX9_isLow_28 : decode cX9_isLow 28 = .ok (.goto 4, 3) := by decide +kernel
theorem dX9_isLow_31 : decode cX9_isLow 31 = .ok (.iconst 0, 1) := by decide +kernel
theorem dX9_isLow_32 : decode cX9_isLow 32 = .ok (.ireturn, 1) := by decide +kernel
theorem dX9_around_0 : decode cX9_around 0 = .ok (.iload_n 1, 1) := by decide +kernel
theorem dX9_around_1 : decode cX9_around 1 = .ok (.aload_n 0, 1) := by decide +kernel
theorem dX9_around_2 : decode cX9_around 2 = .ok (.invokevirtual 98, 3) := by decide +kernel
theorem dX9_around_5 : decode cX9_around 5 = .ok (.irem, 1) := by decide +kernel
theorem dX9_around_6 : decode cX9_around 6 = .ok (.istore_n 2, 1) := by decide +kernel
theorem dX9_around_7 : decode cX9_around 7 = .ok (.iload_n 2, 1) := by decide +kernel
theorem dX9_around_8 : decode cX9_around 8 = .ok (.ifCond .ge 12, 3) := by decide +kernel
theorem dX9_around_11 : decode cX9_around 11 = .ok (.iload_n 2, 1) := by decide +kernel
theorem dX9_around_12 : decode cX9_around 12 = .ok (.aload_n 0, 1) := by decide +kernel
theorem dX9_around_13 : decode cX9_around 13 = .ok (.invokevirtual 98, 3) := by decide +kernel
theorem dX9_around_16 : decode cX9_around 16 = .ok (.iadd, 1) := by decide +kernel
theorem dX9_around_17 : decode cX9_around 17 = .ok (.goto 4, 3) := by decide +kernel
theorem dX9_around_20 : decode cX9_around 20 = .ok (.iload_n 2, 1) := by decide +kernel
theorem dX9_around_21 : decode cX9_around 21 = .ok (.ireturn, 1) := by decide +kernel
theorem dX9_cyclicPairs_0 : decode cX9_cyclicPairs 0 = .ok (.iconst 0, 1) := by decide +kernel
theorem dX9_cyclicPairs_1 : decode cX9_cyclicPairs 1 = .ok (.istore_n 3, 1) := by decide +kernel
theorem dX9_cyclicPairs_2 : decode cX9_cyclicPairs 2 = .ok (.iconst 0, 1) := by decide +kernel
theorem dX9_cyclicPairs_3 : decode cX9_cyclicPairs 3 = .ok (.istore 4, 2) := by decide +kernel
theorem dX9_cyclicPairs_5 : decode cX9_cyclicPairs 5 = .ok (.iload 4, 2) := by decide +kernel
theorem dX9_cyclicPairs_7 : decode cX9_cyclicPairs 7 = .ok (.aload_n 0, 1) := by decide +kernel
theorem dX9_cyclicPairs_8 : decode cX9_cyclicPairs 8 = .ok (.iload_n 1, 1) := by decide +kernel
theorem dX9_cyclicPairs_9 : decode cX9_cyclicPairs 9 = .ok (.invokevirtual 46, 3) := by decide +kernel
theorem dX9_cyclicPairs_12 : decode cX9_cyclicPairs 12 = .ok (.if_icmp .ge 39, 3) := by decide +kernel
theorem dX9_cyclicPairs_15 : decode cX9_cyclicPairs 15 = .ok (.iload_n 3, 1) := by decide +kernel
theorem dX9_cyclicPairs_16 : decode cX9_cyclicPairs 16 = .ok (.aload_n 0, 1) := by decide +kernel
theorem dX9_cyclicPairs_17 : decode cX9_cyclicPairs 17 = .ok (.iload_n 1, 1) := by decide +kernel
theorem dX9_cyclicPairs_18 : decode cX9_cyclicPairs 18 = .ok (.aload_n 0, 1) := by decide +kernel
theorem dX9_cyclicPairs_19 : decode cX9_cyclicPairs 19 = .ok (.aload_n 0, 1) := by decide +kernel
theorem dX9_cyclicPairs_20 : decode cX9_cyclicPairs 20 = .ok (.iload_n 1, 1) := by decide +kernel
theorem dX9_cyclicPairs_21 : decode cX9_cyclicPairs 21 = .ok (.iload 4, 2) := by decide +kernel
theorem dX9_cyclicPairs_23 : decode cX9_cyclicPairs 23 = .ok (.invokevirtual 50, 3) := by decide +kernel
theorem dX9_cyclicPairs_26 : decode cX9_cyclicPairs 26 = .ok (.iload_n 2, 1) := by decide +kernel
theorem dX9_cyclicPairs_27 : decode cX9_cyclicPairs 27 = .ok (.isub, 1) := by decide +kernel
theorem dX9_cyclicPairs_28 : decode cX9_cyclicPairs 28 = .ok (.invokevirtual 102, 3) := by decide +kernel
theorem dX9_cyclicPairs_31 : decode cX9_cyclicPairs 31 = .ok (.invokevirtual 64, 3) := by decide +kernel
theorem dX9_cyclicPairs_34 : decode cX9_cyclicPairs 34 = .ok (.iconst (-1), 1) := by decide +kernel
theorem dX9_cyclicPairs_35 : decode cX9_cyclicPairs 35 = .ok (.if_icmp .ne 7, 3) := by decide +kernel
theorem dX9_cyclicPairs_38 : decode cX9_cyclicPairs 38 = .ok (.iconst 0, 1) := by decide +kernel
theorem dX9_cyclicPairs_39 : decode cX9_cyclicPairs 39 = .ok (.goto 4, 3) := by decide +kernel
theorem dX9_cyclicPairs_42 : decode cX9_cyclicPairs 42 = .ok (.iconst 1, 1) := by decide +kernel
theorem dX9_cyclicPairs_43 : decode cX9_cyclicPairs 43 = .ok (.iadd, 1) := by decide +kernel
theorem dX9_cyclicPairs_44 : decode cX9_cyclicPairs 44 = .ok (.istore_n 3, 1) := by decide +kernel
theorem dX9_cyclicPairs_45 : decode cX9_cyclicPairs 45 = .ok (.iinc 4 1, 3) := by decide +kernel
theorem dX9_cyclicPairs_48 : decode cX9_cyclicPairs 48 = .ok (.goto (-43), 3) := by decide +kernel
theorem dX9_cyclicPairs_51 : decode cX9_cyclicPairs 51 = .ok (.iload_n 3, 1) := by decide +kernel
theorem dX9_cyclicPairs_52 : decode cX9_cyclicPairs 52 = .ok (.ireturn, 1) := by decide +kernel
theorem dX9_bar_0 : decode cX9_bar 0 = .ok (.iload_n 1, 1) := by decide +kernel
theorem dX9_bar_1 : decode cX9_bar 1 = .ok (.invokestatic 61, 3) := by decide +kernel
theorem dX9_bar_4 : decode cX9_bar 4 = .ok (.ifCond .ne 7, 3) := by decide +kernel
theorem dX9_bar_7 : decode cX9_bar 7 = .ok (.iconst 1, 1) := by decide +kernel
theorem dX9_bar_8 : decode cX9_bar 8 = .ok (.goto 16, 3) := by decide +kernel
theorem dX9_bar_11 : decode cX9_bar 11 = .ok (.aload_n 0, 1) := by decide +kernel
theorem dX9_bar_12 : decode cX9_bar 12 = .ok (.iload_n 1, 1) := by decide +kernel
theorem dX9_bar_13 : decode cX9_bar 13 = .ok (.invokevirtual 105, 3) := by decide +kernel
theorem dX9_bar_16 : decode cX9_bar 16 = .ok (.ifCond .eq 7, 3) := by decide +kernel
theorem dX9_bar_19 : decode cX9_bar 19 = .ok (.iconst 0, 1) := by decide +kernel
theorem dX9_bar_20 : decode cX9_bar 20 = .ok (.goto 4, 3) := by decide +kernel
theorem dX9_bar_23 : decode cX9_bar 23 = .ok (.iconst 2, 1) := by decide +kernel
theorem dX9_bar_24 : decode cX9_bar 24 = .ok (.ireturn, 1) := by decide +kernel
theorem dX9_cyclicMultiplicity_0 : decode cX9_cyclicMultiplicity 0 = .ok (.aload_n 0, 1) := by decide +kernel
theorem dX9_cyclicMultiplicity_1 : decode cX9_cyclicMultiplicity 1 = .ok (.iload_n 1, 1) := by decide +kernel
theorem dX9_cyclicMultiplicity_2 : decode cX9_cyclicMultiplicity 2 = .ok (.invokestatic 61, 3) := by decide +kernel
theorem dX9_cyclicMultiplicity_5 : decode cX9_cyclicMultiplicity 5 = .ok (.ifCond .ne 7, 3) := by decide +kernel
theorem dX9_cyclicMultiplicity_8 : decode cX9_cyclicMultiplicity 8 = .ok (.iconst 1, 1) := by decide +kernel
theorem dX9_cyclicMultiplicity_9 : decode cX9_cyclicMultiplicity 9 = .ok (.goto 34, 3) := by decide +kernel
theorem dX9_cyclicMultiplicity_12 : decode cX9_cyclicMultiplicity 12 = .ok (.iload_n 2, 1) := by decide +kernel
theorem dX9_cyclicMultiplicity_13 : decode cX9_cyclicMultiplicity 13 = .ok (.iconst 1, 1) := by decide +kernel
theorem dX9_cyclicMultiplicity_14 : decode cX9_cyclicMultiplicity 14 = .ok (.aload_n 0, 1) := by decide +kernel
theorem dX9_cyclicMultiplicity_15 : decode cX9_cyclicMultiplicity 15 = .ok (.invokevirtual 98, 3) := by decide +kernel
theorem dX9_cyclicMultiplicity_18 : decode cX9_cyclicMultiplicity 18 = .ok (.iconst 1, 1) := by decide +kernel
theorem dX9_cyclicMultiplicity_19 : decode cX9_cyclicMultiplicity 19 = .ok (.isub, 1) := by decide +kernel
theorem dX9_cyclicMultiplicity_20 : decode cX9_cyclicMultiplicity 20 = .ok (.invokestatic 32, 3) := by decide +kernel
theorem dX9_cyclicMultiplicity_23 : decode cX9_cyclicMultiplicity 23 = .ok (.ifCond .ne 7, 3) := by decide +kernel
theorem dX9_cyclicMultiplicity_26 : decode cX9_cyclicMultiplicity 26 = .ok (.iconst 2, 1) := by decide +kernel
theorem dX9_cyclicMultiplicity_27 : decode cX9_cyclicMultiplicity 27 = .ok (.goto 16, 3) := by decide +kernel
theorem dX9_cyclicMultiplicity_30 : decode cX9_cyclicMultiplicity 30 = .ok (.aload_n 0, 1) := by decide +kernel
theorem dX9_cyclicMultiplicity_31 : decode cX9_cyclicMultiplicity 31 = .ok (.iload_n 1, 1) := by decide +kernel
theorem dX9_cyclicMultiplicity_32 : decode cX9_cyclicMultiplicity 32 = .ok (.invokevirtual 105, 3) := by decide +kernel
theorem dX9_cyclicMultiplicity_35 : decode cX9_cyclicMultiplicity 35 = .ok (.ifCond .eq 7, 3) := by decide +kernel
theorem dX9_cyclicMultiplicity_38 : decode cX9_cyclicMultiplicity 38 = .ok (.iconst 0, 1) := by decide +kernel
theorem dX9_cyclicMultiplicity_39 : decode cX9_cyclicMultiplicity 39 = .ok (.goto 4, 3) := by decide +kernel
theorem dX9_cyclicMultiplicity_42 : decode cX9_cyclicMultiplicity 42 = .ok (.iconst 3, 1) := by decide +kernel
theorem dX9_cyclicMultiplicity_43 : decode cX9_cyclicMultiplicity 43 = .ok (.invokevirtual 39, 3) := by decide +kernel
theorem dX9_cyclicMultiplicity_46 : decode cX9_cyclicMultiplicity 46 = .ok (.ifCond .eq 7, 3) := by decide +kernel
theorem dX9_cyclicMultiplicity_49 : decode cX9_cyclicMultiplicity 49 = .ok (.iconst 0, 1) := by decide +kernel
theorem dX9_cyclicMultiplicity_50 : decode cX9_cyclicMultiplicity 50 = .ok (.goto 9, 3) := by decide +kernel
theorem dX9_cyclicMultiplicity_53 : decode cX9_cyclicMultiplicity 53 = .ok (.aload_n 0, 1) := by decide +kernel
theorem dX9_cyclicMultiplicity_54 : decode cX9_cyclicMultiplicity 54 = .ok (.iload_n 1, 1) := by decide +kernel
theorem dX9_cyclicMultiplicity_55 : decode cX9_cyclicMultiplicity 55 = .ok (.iload_n 2, 1) := by decide +kernel
theorem dX9_cyclicMultiplicity_56 : decode cX9_cyclicMultiplicity 56 = .ok (.invokevirtual 108, 3) := by decide +kernel
theorem dX9_cyclicMultiplicity_59 : decode cX9_cyclicMultiplicity 59 = .ok (.ireturn, 1) := by decide +kernel
theorem dX9_isCyclicRuler_0 : decode cX9_isCyclicRuler 0 = .ok (.aload_n 0, 1) := by decide +kernel
theorem dX9_isCyclicRuler_1 : decode cX9_isCyclicRuler 1 = .ok (.aload_n 0, 1) := by decide +kernel
theorem dX9_isCyclicRuler_2 : decode cX9_isCyclicRuler 2 = .ok (.iload_n 1, 1) := by decide +kernel
theorem dX9_isCyclicRuler_3 : decode cX9_isCyclicRuler 3 = .ok (.invokevirtual 111, 3) := by decide +kernel
theorem dX9_isCyclicRuler_6 : decode cX9_isCyclicRuler 6 = .ok (.invokevirtual 39, 3) := by decide +kernel
theorem dX9_isCyclicRuler_9 : decode cX9_isCyclicRuler 9 = .ok (.ifCond .eq 5, 3) := by decide +kernel
theorem dX9_isCyclicRuler_12 : decode cX9_isCyclicRuler 12 = .ok (.iconst 0, 1) := by decide +kernel
theorem dX9_isCyclicRuler_13 : decode cX9_isCyclicRuler 13 = .ok (.ireturn, 1) := by decide +kernel
theorem dX9_isCyclicRuler_14 : decode cX9_isCyclicRuler 14 = .ok (.iconst 1, 1) := by decide +kernel
theorem dX9_isCyclicRuler_15 : decode cX9_isCyclicRuler 15 = .ok (.istore_n 2, 1) := by decide +kernel
theorem dX9_isCyclicRuler_16 : decode cX9_isCyclicRuler 16 = .ok (.iconst 1, 1) := by decide +kernel
theorem dX9_isCyclicRuler_17 : decode cX9_isCyclicRuler 17 = .ok (.istore_n 3, 1) := by decide +kernel
theorem dX9_isCyclicRuler_18 : decode cX9_isCyclicRuler 18 = .ok (.iload_n 3, 1) := by decide +kernel
theorem dX9_isCyclicRuler_19 : decode cX9_isCyclicRuler 19 = .ok (.aload_n 0, 1) := by decide +kernel
theorem dX9_isCyclicRuler_20 : decode cX9_isCyclicRuler 20 = .ok (.invokevirtual 98, 3) := by decide +kernel
theorem dX9_isCyclicRuler_23 : decode cX9_isCyclicRuler 23 = .ok (.if_icmp .ge 29, 3) := by decide +kernel
theorem dX9_isCyclicRuler_26 : decode cX9_isCyclicRuler 26 = .ok (.iload_n 2, 1) := by decide +kernel
theorem dX9_isCyclicRuler_27 : decode cX9_isCyclicRuler 27 = .ok (.ifCond .eq 25, 3) := by decide +kernel
theorem dX9_isCyclicRuler_30 : decode cX9_isCyclicRuler 30 = .ok (.aload_n 0, 1) := by decide +kernel
theorem dX9_isCyclicRuler_31 : decode cX9_isCyclicRuler 31 = .ok (.iload_n 1, 1) := by decide +kernel
theorem dX9_isCyclicRuler_32 : decode cX9_isCyclicRuler 32 = .ok (.iload_n 3, 1) := by decide +kernel
theorem dX9_isCyclicRuler_33 : decode cX9_isCyclicRuler 33 = .ok (.invokevirtual 108, 3) := by decide +kernel
theorem dX9_isCyclicRuler_36 : decode cX9_isCyclicRuler 36 = .ok (.iconst 2, 1) := by decide +kernel
theorem dX9_isCyclicRuler_37 : decode cX9_isCyclicRuler 37 = .ok (.if_icmp .ge 7, 3) := by decide +kernel
theorem dX9_isCyclicRuler_40 : decode cX9_isCyclicRuler 40 = .ok (.iconst 1, 1) := by decide +kernel
theorem dX9_isCyclicRuler_41 : decode cX9_isCyclicRuler 41 = .ok (.goto 4, 3) := by decide +kernel
theorem dX9_isCyclicRuler_44 : decode cX9_isCyclicRuler 44 = .ok (.iconst 0, 1) := by decide +kernel
theorem dX9_isCyclicRuler_45 : decode cX9_isCyclicRuler 45 = .ok (.istore_n 2, 1) := by decide +kernel
theorem dX9_isCyclicRuler_46 : decode cX9_isCyclicRuler 46 = .ok (.iinc 3 1, 3) := by decide +kernel
theorem dX9_isCyclicRuler_49 : decode cX9_isCyclicRuler 49 = .ok (.goto (-31), 3) := by decide +kernel
theorem dX9_isCyclicRuler_52 : decode cX9_isCyclicRuler 52 = .ok (.iload_n 2, 1) := by decide +kernel
theorem dX9_isCyclicRuler_53 : decode cX9_isCyclicRuler 53 = .ok (.ireturn, 1) := by decide +kernel
theorem dX9_indexOf_0 : decode cX9_indexOf 0 = .ok (.aload_n 0, 1) := by decide +kernel
theorem dX9_indexOf_1 : decode cX9_indexOf 1 = .ok (.iload_n 1, 1) := by decide +kernel
theorem dX9_indexOf_2 : decode cX9_indexOf 2 = .ok (.iconst 1, 1) := by decide +kernel
theorem dX9_indexOf_3 : decode cX9_indexOf 3 = .ok (.invokevirtual 108, 3) := by decide +kernel
theorem dX9_indexOf_6 : decode cX9_indexOf 6 = .ok (.istore_n 2, 1) := by decide +kernel
theorem dX9_indexOf_7 : decode cX9_indexOf 7 = .ok (.aload_n 0, 1) := by decide +kernel
theorem dX9_indexOf_8 : decode cX9_indexOf 8 = .ok (.iload_n 1, 1) := by decide +kernel
theorem dX9_indexOf_9 : decode cX9_indexOf 9 = .ok (.invokevirtual 46, 3) := by decide +kernel
theorem dX9_indexOf_12 : decode cX9_indexOf 12 = .ok (.iconst 1, 1) := by decide +kernel
theorem dX9_indexOf_13 : decode cX9_indexOf 13 = .ok (.if_icmp .le 7, 3) := by decide +kernel
theorem dX9_indexOf_16 : decode cX9_indexOf 16 = .ok (.iconst 1, 1) := by decide +kernel
theorem dX9_indexOf_17 : decode cX9_indexOf 17 = .ok (.goto 4, 3) := by decide +kernel
theorem dX9_indexOf_20 : decode cX9_indexOf 20 = .ok (.iconst 0, 1) := by decide +kernel
theorem dX9_indexOf_21 : decode cX9_indexOf 21 = .ok (.istore_n 3, 1) := by decide +kernel
theorem dX9_indexOf_22 : decode cX9_indexOf 22 = .ok (.iconst 2, 1) := by decide +kernel
theorem dX9_indexOf_23 : decode cX9_indexOf 23 = .ok (.istore 4, 2) := by decide +kernel
theorem dX9_indexOf_25 : decode cX9_indexOf 25 = .ok (.iload 4, 2) := by decide +kernel
theorem dX9_indexOf_27 : decode cX9_indexOf 27 = .ok (.aload_n 0, 1) := by decide +kernel
theorem dX9_indexOf_28 : decode cX9_indexOf 28 = .ok (.invokevirtual 98, 3) := by decide +kernel
theorem dX9_indexOf_31 : decode cX9_indexOf 31 = .ok (.if_icmp .ge 30, 3) := by decide +kernel
theorem dX9_indexOf_34 : decode cX9_indexOf 34 = .ok (.iload_n 3, 1) := by decide +kernel
theorem dX9_indexOf_35 : decode cX9_indexOf 35 = .ok (.ifCond .eq 26, 3) := by decide +kernel
theorem dX9_indexOf_38 : decode cX9_indexOf 38 = .ok (.aload_n 0, 1) := by decide +kernel
theorem dX9_indexOf_39 : decode cX9_indexOf 39 = .ok (.iload_n 1, 1) := by decide +kernel
theorem dX9_indexOf_40 : decode cX9_indexOf 40 = .ok (.iload 4, 2) := by decide +kernel
theorem dX9_indexOf_42 : decode cX9_indexOf 42 = .ok (.invokevirtual 108, 3) := by decide +kernel
theorem dX9_indexOf_45 : decode cX9_indexOf 45 = .ok (.iload_n 2, 1) := by decide +kernel
theorem dX9_indexOf_46 : decode cX9_indexOf 46 = .ok (.if_icmp .ne 7, 3) := by decide +kernel
theorem dX9_indexOf_49 : decode cX9_indexOf 49 = .ok (.iconst 1, 1) := by decide +kernel
theorem dX9_indexOf_50 : decode cX9_indexOf 50 = .ok (.goto 4, 3) := by decide +kernel
theorem dX9_indexOf_53 : decode cX9_indexOf 53 = .ok (.iconst 0, 1) := by decide +kernel
theorem dX9_indexOf_54 : decode cX9_indexOf 54 = .ok (.istore_n 3, 1) := by decide +kernel
theorem dX9_indexOf_55 : decode cX9_indexOf 55 = .ok (.iinc 4 1, 3) := by decide +kernel
theorem dX9_indexOf_58 : decode cX9_indexOf 58 = .ok (.goto (-33), 3) := by decide +kernel
theorem dX9_indexOf_61 : decode cX9_indexOf 61 = .ok (.iload_n 3, 1) := by decide +kernel
theorem dX9_indexOf_62 : decode cX9_indexOf 62 = .ok (.ifCond .eq 7, 3) := by decide +kernel
theorem dX9_indexOf_65 : decode cX9_indexOf 65 = .ok (.iload_n 2, 1) := by decide +kernel
theorem dX9_indexOf_66 : decode cX9_indexOf 66 = .ok (.goto 4, 3) := by decide +kernel
theorem dX9_indexOf_69 : decode cX9_indexOf 69 = .ok (.iconst (-1), 1) := by decide +kernel
theorem dX9_indexOf_70 : decode cX9_indexOf 70 = .ok (.ireturn, 1) := by decide +kernel
theorem dX9_index_0 : decode cX9_index 0 = .ok (.aload_n 0, 1) := by decide +kernel
theorem dX9_index_1 : decode cX9_index 1 = .ok (.aload_n 0, 1) := by decide +kernel
theorem dX9_index_2 : decode cX9_index 2 = .ok (.iload_n 1, 1) := by decide +kernel
theorem dX9_index_3 : decode cX9_index 3 = .ok (.invokevirtual 111, 3) := by decide +kernel
theorem dX9_index_6 : decode cX9_index 6 = .ok (.invokevirtual 39, 3) := by decide +kernel
theorem dX9_index_9 : decode cX9_index 9 = .ok (.ifCond .eq 7, 3) := by decide +kernel
theorem dX9_index_12 : decode cX9_index 12 = .ok (.iconst 0, 1) := by decide +kernel
theorem dX9_index_13 : decode cX9_index 13 = .ok (.goto 8, 3) := by decide +kernel
theorem dX9_index_16 : decode cX9_index 16 = .ok (.aload_n 0, 1) := by decide +kernel
theorem dX9_index_17 : decode cX9_index 17 = .ok (.iload_n 1, 1) := by decide +kernel
theorem dX9_index_18 : decode cX9_index 18 = .ok (.invokevirtual 114, 3) := by decide +kernel
theorem dX9_index_21 : decode cX9_index 21 = .ok (.ireturn, 1) := by decide +kernel
theorem dX9_map_0 : decode cX9_map 0 = .ok (.aload_n 0, 1) := by decide +kernel
theorem dX9_map_1 : decode cX9_map 1 = .ok (.iload_n 1, 1) := by decide +kernel
theorem dX9_map_2 : decode cX9_map 2 = .ok (.invokestatic 61, 3) := by decide +kernel
theorem dX9_map_5 : decode cX9_map 5 = .ok (.ifCond .eq 11, 3) := by decide +kernel
theorem dX9_map_8 : decode cX9_map 8 = .ok (.iload 4, 2) := by decide +kernel
theorem dX9_map_10 : decode cX9_map 10 = .ok (.invokestatic 61, 3) := by decide +kernel
theorem dX9_map_13 : decode cX9_map 13 = .ok (.ifCond .ne 7, 3) := by decide +kernel
theorem dX9_map_16 : decode cX9_map 16 = .ok (.iconst 1, 1) := by decide +kernel
theorem dX9_map_17 : decode cX9_map 17 = .ok (.goto 42, 3) := by decide +kernel
theorem dX9_map_20 : decode cX9_map 20 = .ok (.iload_n 2, 1) := by decide +kernel
theorem dX9_map_21 : decode cX9_map 21 = .ok (.iconst 0, 1) := by decide +kernel
theorem dX9_map_22 : decode cX9_map 22 = .ok (.sipush 1000, 3) := by decide +kernel
theorem dX9_map_25 : decode cX9_map 25 = .ok (.invokestatic 32, 3) := by decide +kernel
theorem dX9_map_28 : decode cX9_map 28 = .ok (.ifCond .eq 14, 3) := by decide +kernel
theorem dX9_map_31 : decode cX9_map 31 = .ok (.iload_n 3, 1) := by decide +kernel
theorem dX9_map_32 : decode cX9_map 32 = .ok (.iconst 0, 1) := by decide +kernel
theorem dX9_map_33 : decode cX9_map 33 = .ok (.sipush 1000, 3) := by decide +kernel
theorem dX9_map_36 : decode cX9_map 36 = .ok (.invokestatic 32, 3) := by decide +kernel
theorem dX9_map_39 : decode cX9_map 39 = .ok (.ifCond .ne 7, 3) := by decide +kernel
theorem dX9_map_42 : decode cX9_map 42 = .ok (.iconst 2, 1) := by decide +kernel
theorem dX9_map_43 : decode cX9_map 43 = .ok (.goto 16, 3) := by decide +kernel
theorem dX9_map_46 : decode cX9_map 46 = .ok (.aload_n 0, 1) := by decide +kernel
theorem dX9_map_47 : decode cX9_map 47 = .ok (.iload_n 1, 1) := by decide +kernel
theorem dX9_map_48 : decode cX9_map 48 = .ok (.invokevirtual 105, 3) := by decide +kernel
theorem dX9_map_51 : decode cX9_map 51 = .ok (.ifCond .eq 7, 3) := by decide +kernel
theorem dX9_map_54 : decode cX9_map 54 = .ok (.iconst 0, 1) := by decide +kernel
theorem dX9_map_55 : decode cX9_map 55 = .ok (.goto 4, 3) := by decide +kernel
theorem dX9_map_58 : decode cX9_map 58 = .ok (.iconst 3, 1) := by decide +kernel
theorem dX9_map_59 : decode cX9_map 59 = .ok (.invokevirtual 39, 3) := by decide +kernel
theorem dX9_map_62 : decode cX9_map 62 = .ok (.ifCond .eq 5, 3) := by decide +kernel
theorem dX9_map_65 : decode cX9_map 65 = .ok (.iconst 0, 1) := by decide +kernel
theorem dX9_map_66 : decode cX9_map 66 = .ok (.ireturn, 1) := by decide +kernel
theorem dX9_map_67 : decode cX9_map 67 = .ok (.aload_n 0, 1) := by decide +kernel
theorem dX9_map_68 : decode cX9_map 68 = .ok (.invokevirtual 67, 3) := by decide +kernel
theorem dX9_map_71 : decode cX9_map 71 = .ok (.aload_n 0, 1) := by decide +kernel
theorem dX9_map_72 : decode cX9_map 72 = .ok (.invokevirtual 54, 3) := by decide +kernel
theorem dX9_map_75 : decode cX9_map 75 = .ok (.iconst 0, 1) := by decide +kernel
theorem dX9_map_76 : decode cX9_map 76 = .ok (.istore 5, 2) := by decide +kernel
theorem dX9_map_78 : decode cX9_map 78 = .ok (.iload 5, 2) := by decide +kernel
theorem dX9_map_80 : decode cX9_map 80 = .ok (.aload_n 0, 1) := by decide +kernel
theorem dX9_map_81 : decode cX9_map 81 = .ok (.iload_n 1, 1) := by decide +kernel
theorem dX9_map_82 : decode cX9_map 82 = .ok (.invokevirtual 46, 3) := by decide +kernel
theorem dX9_map_85 : decode cX9_map 85 = .ok (.if_icmp .ge 28, 3) := by decide +kernel
theorem dX9_map_88 : decode cX9_map 88 = .ok (.aload_n 0, 1) := by decide +kernel
theorem dX9_map_89 : decode cX9_map 89 = .ok (.aload_n 0, 1) := by decide +kernel
theorem dX9_map_90 : decode cX9_map 90 = .ok (.iload_n 2, 1) := by decide +kernel
theorem dX9_map_91 : decode cX9_map 91 = .ok (.aload_n 0, 1) := by decide +kernel
theorem dX9_map_92 : decode cX9_map 92 = .ok (.iload_n 1, 1) := by decide +kernel
theorem dX9_map_93 : decode cX9_map 93 = .ok (.iload 5, 2) := by decide +kernel
theorem dX9_map_95 : decode cX9_map 95 = .ok (.invokevirtual 50, 3) := by decide +kernel
theorem dX9_map_98 : decode cX9_map 98 = .ok (.imul, 1) := by decide +kernel
theorem dX9_map_99 : decode cX9_map 99 = .ok (.iload_n 3, 1) := by decide +kernel
theorem dX9_map_100 : decode cX9_map 100 = .ok (.iadd, 1) := by decide +kernel
theorem dX9_map_101 : decode cX9_map 101 = .ok (.invokevirtual 102, 3) := by decide +kernel
theorem dX9_map_104 : decode cX9_map 104 = .ok (.invokevirtual 57, 3) := by decide +kernel
theorem dX9_map_107 : decode cX9_map 107 = .ok (.iinc 5 1, 3) := by decide +kernel
theorem dX9_map_110 : decode cX9_map 110 = .ok (.goto (-32), 3) := by decide +kernel
theorem dX9_map_113 : decode cX9_map 113 = .ok (.aload_n 0, 1) := by decide +kernel
theorem dX9_map_114 : decode cX9_map 114 = .ok (.iload 4, 2) := by decide +kernel
theorem dX9_map_116 : decode cX9_map 116 = .ok (.invokevirtual 74, 3) := by decide +kernel
theorem dX9_map_119 : decode cX9_map 119 = .ok (.ireturn, 1) := by decide +kernel
theorem dX9_complement_0 : decode cX9_complement 0 = .ok (.aload_n 0, 1) := by decide +kernel
theorem dX9_complement_1 : decode cX9_complement 1 = .ok (.iload_n 1, 1) := by decide +kernel
theorem dX9_complement_2 : decode cX9_complement 2 = .ok (.invokestatic 61, 3) := by decide +kernel
theorem dX9_complement_5 : decode cX9_complement 5 = .ok (.ifCond .eq 10, 3) := by decide +kernel
theorem dX9_complement_8 : decode cX9_complement 8 = .ok (.iload_n 2, 1) := by decide +kernel
theorem dX9_complement_9 : decode cX9_complement 9 = .ok (.invokestatic 61, 3) := by decide +kernel
theorem dX9_complement_12 : decode cX9_complement 12 = .ok (.ifCond .ne 7, 3) := by decide +kernel
theorem dX9_complement_15 : decode cX9_complement 15 = .ok (.iconst 1, 1) := by decide +kernel
theorem dX9_complement_16 : decode cX9_complement 16 = .ok (.goto 31, 3) := by decide +kernel
theorem dX9_complement_19 : decode cX9_complement 19 = .ok (.aload_n 0, 1) := by decide +kernel
theorem dX9_complement_20 : decode cX9_complement 20 = .ok (.iload_n 1, 1) := by decide +kernel
theorem dX9_complement_21 : decode cX9_complement 21 = .ok (.invokevirtual 105, 3) := by decide +kernel
theorem dX9_complement_24 : decode cX9_complement 24 = .ok (.ifCond .eq 18, 3) := by decide +kernel
theorem dX9_complement_27 : decode cX9_complement 27 = .ok (.aload_n 0, 1) := by decide +kernel
theorem dX9_complement_28 : decode cX9_complement 28 = .ok (.invokevirtual 98, 3) := by decide +kernel
theorem dX9_complement_31 : decode cX9_complement 31 = .ok (.aload_n 0, 1) := by decide +kernel
theorem dX9_complement_32 : decode cX9_complement 32 = .ok (.iload_n 1, 1) := by decide +kernel
theorem dX9_complement_33 : decode cX9_complement 33 = .ok (.invokevirtual 46, 3) := by decide +kernel
theorem dX9_complement_36 : decode cX9_complement 36 = .ok (.isub, 1) := by decide +kernel
theorem dX9_complement_37 : decode cX9_complement 37 = .ok (.bipush 24, 2) := by decide +kernel
theorem dX9_complement_39 : decode cX9_complement 39 = .ok (.if_icmp .le 7, 3) := by decide +kernel
theorem dX9_complement_42 : decode cX9_complement 42 = .ok (.iconst 2, 1) := by decide +kernel
theorem dX9_complement_43 : decode cX9_complement 43 = .ok (.goto 4, 3) := by decide +kernel
theorem dX9_complement_46 : decode cX9_complement 46 = .ok (.iconst 0, 1) := by decide +kernel
theorem dX9_complement_47 : decode cX9_complement 47 = .ok (.invokevirtual 39, 3) := by decide +kernel
theorem dX9_complement_50 : decode cX9_complement 50 = .ok (.ifCond .eq 5, 3) := by decide +kernel
theorem dX9_complement_53 : decode cX9_complement 53 = .ok (.iconst 0, 1) := by decide +kernel
theorem dX9_complement_54 : decode cX9_complement 54 = .ok (.ireturn, 1) := by decide +kernel
theorem dX9_complement_55 : decode cX9_complement 55 = .ok (.aload_n 0, 1) := by decide +kernel
theorem dX9_complement_56 : decode cX9_complement 56 = .ok (.invokevirtual 67, 3) := by decide +kernel
theorem dX9_complement_59 : decode cX9_complement 59 = .ok (.aload_n 0, 1) := by decide +kernel
theorem dX9_complement_60 : decode cX9_complement 60 = .ok (.invokevirtual 54, 3) := by decide +kernel
theorem dX9_complement_63 : decode cX9_complement 63 = .ok (.iconst 0, 1) := by decide +kernel
theorem dX9_complement_64 : decode cX9_complement 64 = .ok (.istore_n 3, 1) := by decide +kernel
theorem dX9_complement_65 : decode cX9_complement 65 = .ok (.iload_n 3, 1) := by decide +kernel
theorem dX9_complement_66 : decode cX9_complement 66 = .ok (.aload_n 0, 1) := by decide +kernel
theorem dX9_complement_67 : decode cX9_complement 67 = .ok (.invokevirtual 98, 3) := by decide +kernel
theorem dX9_complement_70 : decode cX9_complement 70 = .ok (.if_icmp .ge 24, 3) := by decide +kernel
theorem dX9_complement_73 : decode cX9_complement 73 = .ok (.aload_n 0, 1) := by decide +kernel
theorem dX9_complement_74 : decode cX9_complement 74 = .ok (.iload_n 1, 1) := by decide +kernel
theorem dX9_complement_75 : decode cX9_complement 75 = .ok (.iload_n 3, 1) := by decide +kernel
theorem dX9_complement_76 : decode cX9_complement 76 = .ok (.invokevirtual 64, 3) := by decide +kernel
theorem dX9_complement_79 : decode cX9_complement 79 = .ok (.iconst (-1), 1) := by decide +kernel
theorem dX9_complement_80 : decode cX9_complement 80 = .ok (.if_icmp .ne 8, 3) := by decide +kernel
theorem dX9_complement_83 : decode cX9_complement 83 = .ok (.aload_n 0, 1) := by decide +kernel
theorem dX9_complement_84 : decode cX9_complement 84 = .ok (.iload_n 3, 1) := by decide +kernel
theorem dX9_complement_85 : decode cX9_complement 85 = .ok (.invokevirtual 57, 3) := by decide +kernel
theorem dX9_complement_88 : decode cX9_complement 88 = .ok (.iinc 3 1, 3) := by decide +kernel
theorem dX9_complement_91 : decode cX9_complement 91 = .ok (.goto (-26), 3) := by decide +kernel
theorem dX9_complement_94 : decode cX9_complement 94 = .ok (.aload_n 0, 1) := by decide +kernel
theorem dX9_complement_95 : decode cX9_complement 95 = .ok (.iload_n 2, 1) := by decide +kernel
theorem dX9_complement_96 : decode cX9_complement 96 = .ok (.invokevirtual 74, 3) := by decide +kernel
theorem dX9_complement_99 : decode cX9_complement 99 = .ok (.ireturn, 1) := by decide +kernel
theorem dX9_reflect_0 : decode cX9_reflect 0 = .ok (.aload_n 0, 1) := by decide +kernel
theorem dX9_reflect_1 : decode cX9_reflect 1 = .ok (.iload_n 1, 1) := by decide +kernel
theorem dX9_reflect_2 : decode cX9_reflect 2 = .ok (.invokestatic 61, 3) := by decide +kernel
theorem dX9_reflect_5 : decode cX9_reflect 5 = .ok (.ifCond .eq 14, 3) := by decide +kernel
theorem dX9_reflect_8 : decode cX9_reflect 8 = .ok (.iload_n 2, 1) := by decide +kernel
theorem dX9_reflect_9 : decode cX9_reflect 9 = .ok (.invokestatic 61, 3) := by decide +kernel
theorem dX9_reflect_12 : decode cX9_reflect 12 = .ok (.ifCond .eq 7, 3) := by decide +kernel
theorem dX9_reflect_15 : decode cX9_reflect 15 = .ok (.iconst 0, 1) := by decide +kernel
theorem dX9_reflect_16 : decode cX9_reflect 16 = .ok (.goto 4, 3) := by decide +kernel
theorem dX9_reflect_19 : decode cX9_reflect 19 = .ok (.iconst 1, 1) := by decide +kernel
theorem dX9_reflect_20 : decode cX9_reflect 20 = .ok (.invokevirtual 39, 3) := by decide +kernel
theorem dX9_reflect_23 : decode cX9_reflect 23 = .ok (.ifCond .eq 5, 3) := by decide +kernel
theorem dX9_reflect_26 : decode cX9_reflect 26 = .ok (.iconst 0, 1) := by decide +kernel
theorem dX9_reflect_27 : decode cX9_reflect 27 = .ok (.ireturn, 1) := by decide +kernel
theorem dX9_reflect_28 : decode cX9_reflect 28 = .ok (.aload_n 0, 1) := by decide +kernel
theorem dX9_reflect_29 : decode cX9_reflect 29 = .ok (.invokevirtual 67, 3) := by decide +kernel
theorem dX9_reflect_32 : decode cX9_reflect 32 = .ok (.aload_n 0, 1) := by decide +kernel
theorem dX9_reflect_33 : decode cX9_reflect 33 = .ok (.invokevirtual 54, 3) := by decide +kernel
theorem dX9_reflect_36 : decode cX9_reflect 36 = .ok (.iconst 0, 1) := by decide +kernel
theorem dX9_reflect_37 : decode cX9_reflect 37 = .ok (.istore_n 3, 1) := by decide +kernel
theorem dX9_reflect_38 : decode cX9_reflect 38 = .ok (.iload_n 3, 1) := by decide +kernel
theorem dX9_reflect_39 : decode cX9_reflect 39 = .ok (.aload_n 0, 1) := by decide +kernel
theorem dX9_reflect_40 : decode cX9_reflect 40 = .ok (.iload_n 1, 1) := by decide +kernel
theorem dX9_reflect_41 : decode cX9_reflect 41 = .ok (.invokevirtual 46, 3) := by decide +kernel
theorem dX9_reflect_44 : decode cX9_reflect 44 = .ok (.if_icmp .ge 32, 3) := by decide +kernel
theorem dX9_reflect_47 : decode cX9_reflect 47 = .ok (.aload_n 0, 1) := by decide +kernel
theorem dX9_reflect_48 : decode cX9_reflect 48 = .ok (.aload_n 0, 1) := by decide +kernel
theorem dX9_reflect_49 : decode cX9_reflect 49 = .ok (.iload_n 1, 1) := by decide +kernel
theorem dX9_reflect_50 : decode cX9_reflect 50 = .ok (.aload_n 0, 1) := by decide +kernel
theorem dX9_reflect_51 : decode cX9_reflect 51 = .ok (.iload_n 1, 1) := by decide +kernel
theorem dX9_reflect_52 : decode cX9_reflect 52 = .ok (.invokevirtual 46, 3) := by decide +kernel
theorem dX9_reflect_55 : decode cX9_reflect 55 = .ok (.iconst 1, 1) := by decide +kernel
theorem dX9_reflect_56 : decode cX9_reflect 56 = .ok (.isub, 1) := by decide +kernel
theorem dX9_reflect_57 : decode cX9_reflect 57 = .ok (.invokevirtual 50, 3) := by decide +kernel
theorem dX9_reflect_60 : decode cX9_reflect 60 = .ok (.aload_n 0, 1) := by decide +kernel
theorem dX9_reflect_61 : decode cX9_reflect 61 = .ok (.iload_n 1, 1) := by decide +kernel
theorem dX9_reflect_62 : decode cX9_reflect 62 = .ok (.iload_n 3, 1) := by decide +kernel
theorem dX9_reflect_63 : decode cX9_reflect 63 = .ok (.invokevirtual 50, 3) := by decide +kernel
theorem dX9_reflect_66 : decode cX9_reflect 66 = .ok (.isub, 1) := by decide +kernel
theorem dX9_reflect_67 : decode cX9_reflect 67 = .ok (.invokevirtual 57, 3) := by decide +kernel
theorem dX9_reflect_70 : decode cX9_reflect 70 = .ok (.iinc 3 1, 3) := by decide +kernel
theorem dX9_reflect_73 : decode cX9_reflect 73 = .ok (.goto (-35), 3) := by decide +kernel
theorem dX9_reflect_76 : decode cX9_reflect 76 = .ok (.aload_n 0, 1) := by decide +kernel
theorem dX9_reflect_77 : decode cX9_reflect 77 = .ok (.iload_n 2, 1) := by decide +kernel
theorem dX9_reflect_78 : decode cX9_reflect 78 = .ok (.invokevirtual 74, 3) := by decide +kernel
theorem dX9_reflect_81 : decode cX9_reflect 81 = .ok (.ireturn, 1) := by decide +kernel
theorem dX9_divisor_0 : decode cX9_divisor 0 = .ok (.iload_n 0, 1) := by decide +kernel
theorem dX9_divisor_1 : decode cX9_divisor 1 = .ok (.istore_n 2, 1) := by decide +kernel
theorem dX9_divisor_2 : decode cX9_divisor 2 = .ok (.iload_n 1, 1) := by decide +kernel
theorem dX9_divisor_3 : decode cX9_divisor 3 = .ok (.istore_n 3, 1) := by decide +kernel
theorem dX9_divisor_4 : decode cX9_divisor 4 = .ok (.iload_n 3, 1) := by decide +kernel
theorem dX9_divisor_5 : decode cX9_divisor 5 = .ok (.ifCond .eq 16, 3) := by decide +kernel
theorem dX9_divisor_8 : decode cX9_divisor 8 = .ok (.iload_n 2, 1) := by decide +kernel
theorem dX9_divisor_9 : decode cX9_divisor 9 = .ok (.iload_n 3, 1) := by decide +kernel
theorem dX9_divisor_10 : decode cX9_divisor 10 = .ok (.irem, 1) := by decide +kernel
theorem dX9_divisor_11 : decode cX9_divisor 11 = .ok (.istore 4, 2) := by decide +kernel
theorem dX9_divisor_13 : decode cX9_divisor 13 = .ok (.iload_n 3, 1) := by decide +kernel
theorem dX9_divisor_14 : decode cX9_divisor 14 = .ok (.istore_n 2, 1) := by decide +kernel
theorem dX9_divisor_15 : decode cX9_divisor 15 = .ok (.iload 4, 2) := by decide +kernel
theorem dX9_divisor_17 : decode cX9_divisor 17 = .ok (.istore_n 3, 1) := by decide +kernel
theorem dX9_divisor_18 : decode cX9_divisor 18 = .ok (.goto (-14), 3) := by decide +kernel
theorem dX9_divisor_21 : decode cX9_divisor 21 = .ok (.iload_n 2, 1) := by decide +kernel
theorem dX9_divisor_22 : decode cX9_divisor 22 = .ok (.ireturn, 1) := by decide +kernel
theorem dX9_liesOn_0 : decode cX9_liesOn 0 = .ok (.iconst 1, 1) := by decide +kernel
theorem dX9_liesOn_1 : decode cX9_liesOn 1 = .ok (.istore 4, 2) := by decide +kernel
theorem dX9_liesOn_3 : decode cX9_liesOn 3 = .ok (.iconst 0, 1) := by decide +kernel
theorem dX9_liesOn_4 : decode cX9_liesOn 4 = .ok (.istore 5, 2) := by decide +kernel
theorem dX9_liesOn_6 : decode cX9_liesOn 6 = .ok (.iload 5, 2) := by decide +kernel
theorem dX9_liesOn_8 : decode cX9_liesOn 8 = .ok (.aload_n 0, 1) := by decide +kernel
theorem dX9_liesOn_9 : decode cX9_liesOn 9 = .ok (.iload_n 1, 1) := by decide +kernel
theorem dX9_liesOn_10 : decode cX9_liesOn 10 = .ok (.invokevirtual 46, 3) := by decide +kernel
theorem dX9_liesOn_13 : decode cX9_liesOn 13 = .ok (.if_icmp .ge 45, 3) := by decide +kernel
theorem dX9_liesOn_16 : decode cX9_liesOn 16 = .ok (.iload 4, 2) := by decide +kernel
theorem dX9_liesOn_18 : decode cX9_liesOn 18 = .ok (.ifCond .eq 40, 3) := by decide +kernel
theorem dX9_liesOn_21 : decode cX9_liesOn 21 = .ok (.aload_n 0, 1) := by decide +kernel
theorem dX9_liesOn_22 : decode cX9_liesOn 22 = .ok (.iload_n 1, 1) := by decide +kernel
theorem dX9_liesOn_23 : decode cX9_liesOn 23 = .ok (.aload_n 0, 1) := by decide +kernel
theorem dX9_liesOn_24 : decode cX9_liesOn 24 = .ok (.iload_n 2, 1) := by decide +kernel
theorem dX9_liesOn_25 : decode cX9_liesOn 25 = .ok (.aload_n 0, 1) := by decide +kernel
theorem dX9_liesOn_26 : decode cX9_liesOn 26 = .ok (.iload_n 1, 1) := by decide +kernel
theorem dX9_liesOn_27 : decode cX9_liesOn 27 = .ok (.iload 5, 2) := by decide +kernel
theorem dX9_liesOn_29 : decode cX9_liesOn 29 = .ok (.invokevirtual 50, 3) := by decide +kernel
theorem dX9_liesOn_32 : decode cX9_liesOn 32 = .ok (.imul, 1) := by decide +kernel
theorem dX9_liesOn_33 : decode cX9_liesOn 33 = .ok (.iload_n 3, 1) := by decide +kernel
theorem dX9_liesOn_34 : decode cX9_liesOn 34 = .ok (.isub, 1) := by decide +kernel
theorem dX9_liesOn_35 : decode cX9_liesOn 35 = .ok (.invokevirtual 102, 3) := by decide +kernel
theorem dX9_liesOn_38 : decode cX9_liesOn 38 = .ok (.invokevirtual 64, 3) := by decide +kernel
theorem dX9_liesOn_41 : decode cX9_liesOn 41 = .ok (.iconst (-1), 1) := by decide +kernel
theorem dX9_liesOn_42 : decode cX9_liesOn 42 = .ok (.if_icmp .eq 7, 3) := by decide +kernel
theorem dX9_liesOn_45 : decode cX9_liesOn 45 = .ok (.iconst 1, 1) := by decide +kernel
theorem dX9_liesOn_46 : decode cX9_liesOn 46 = .ok (.goto 4, 3) := by decide +kernel
theorem dX9_liesOn_49 : decode cX9_liesOn 49 = .ok (.iconst 0, 1) := by decide +kernel
theorem dX9_liesOn_50 : decode cX9_liesOn 50 = .ok (.istore 4, 2) := by decide +kernel
theorem dX9_liesOn_52 : decode cX9_liesOn 52 = .ok (.iinc 5 1, 3) := by decide +kernel
theorem dX9_liesOn_55 : decode cX9_liesOn 55 = .ok (.goto (-49), 3) := by decide +kernel
theorem dX9_liesOn_58 : decode cX9_liesOn 58 = .ok (.iload 4, 2) := by decide +kernel
theorem dX9_liesOn_60 : decode cX9_liesOn 60 = .ok (.ireturn, 1) := by decide +kernel
theorem dX9_multiplies_0 : decode cX9_multiplies 0 = .ok (.aload_n 0, 1) := by decide +kernel
theorem dX9_multiplies_1 : decode cX9_multiplies 1 = .ok (.iload_n 1, 1) := by decide +kernel
theorem dX9_multiplies_2 : decode cX9_multiplies 2 = .ok (.invokevirtual 46, 3) := by decide +kernel
theorem dX9_multiplies_5 : decode cX9_multiplies 5 = .ok (.ifCond .ne 7, 3) := by decide +kernel
theorem dX9_multiplies_8 : decode cX9_multiplies 8 = .ok (.iconst 1, 1) := by decide +kernel
theorem dX9_multiplies_9 : decode cX9_multiplies 9 = .ok (.goto 4, 3) := by decide +kernel
theorem dX9_multiplies_12 : decode cX9_multiplies 12 = .ok (.iconst 0, 1) := by decide +kernel
theorem dX9_multiplies_13 : decode cX9_multiplies 13 = .ok (.istore_n 3, 1) := by decide +kernel
theorem dX9_multiplies_14 : decode cX9_multiplies 14 = .ok (.iconst 0, 1) := by decide +kernel
theorem dX9_multiplies_15 : decode cX9_multiplies 15 = .ok (.istore 4, 2) := by decide +kernel
theorem dX9_multiplies_17 : decode cX9_multiplies 17 = .ok (.iload 4, 2) := by decide +kernel
theorem dX9_multiplies_19 : decode cX9_multiplies 19 = .ok (.aload_n 0, 1) := by decide +kernel
theorem dX9_multiplies_20 : decode cX9_multiplies 20 = .ok (.iload_n 1, 1) := by decide +kernel
theorem dX9_multiplies_21 : decode cX9_multiplies 21 = .ok (.invokevirtual 46, 3) := by decide +kernel
theorem dX9_multiplies_24 : decode cX9_multiplies 24 = .ok (.if_icmp .ge 40, 3) := by decide +kernel
theorem dX9_multiplies_27 : decode cX9_multiplies 27 = .ok (.iload_n 3, 1) := by decide +kernel
theorem dX9_multiplies_28 : decode cX9_multiplies 28 = .ok (.ifCond .ne 36, 3) := by decide +kernel
theorem dX9_multiplies_31 : decode cX9_multiplies 31 = .ok (.aload_n 0, 1) := by decide +kernel
theorem dX9_multiplies_32 : decode cX9_multiplies 32 = .ok (.iload_n 1, 1) := by decide +kernel
theorem dX9_multiplies_33 : decode cX9_multiplies 33 = .ok (.iload_n 2, 1) := by decide +kernel
theorem dX9_multiplies_34 : decode cX9_multiplies 34 = .ok (.aload_n 0, 1) := by decide +kernel
theorem dX9_multiplies_35 : decode cX9_multiplies 35 = .ok (.iload_n 2, 1) := by decide +kernel
theorem dX9_multiplies_36 : decode cX9_multiplies 36 = .ok (.aload_n 0, 1) := by decide +kernel
theorem dX9_multiplies_37 : decode cX9_multiplies 37 = .ok (.iload_n 1, 1) := by decide +kernel
theorem dX9_multiplies_38 : decode cX9_multiplies 38 = .ok (.iconst 0, 1) := by decide +kernel
theorem dX9_multiplies_39 : decode cX9_multiplies 39 = .ok (.invokevirtual 50, 3) := by decide +kernel
theorem dX9_multiplies_42 : decode cX9_multiplies 42 = .ok (.imul, 1) := by decide +kernel
theorem dX9_multiplies_43 : decode cX9_multiplies 43 = .ok (.aload_n 0, 1) := by decide +kernel
theorem dX9_multiplies_44 : decode cX9_multiplies 44 = .ok (.iload_n 1, 1) := by decide +kernel
theorem dX9_multiplies_45 : decode cX9_multiplies 45 = .ok (.iload 4, 2) := by decide +kernel
theorem dX9_multiplies_47 : decode cX9_multiplies 47 = .ok (.invokevirtual 50, 3) := by decide +kernel
theorem dX9_multiplies_50 : decode cX9_multiplies 50 = .ok (.isub, 1) := by decide +kernel
theorem dX9_multiplies_51 : decode cX9_multiplies 51 = .ok (.invokevirtual 102, 3) := by decide +kernel
theorem dX9_multiplies_54 : decode cX9_multiplies 54 = .ok (.invokevirtual 117, 3) := by decide +kernel
theorem dX9_multiplies_57 : decode cX9_multiplies 57 = .ok (.istore_n 3, 1) := by decide +kernel
theorem dX9_multiplies_58 : decode cX9_multiplies 58 = .ok (.iinc 4 1, 3) := by decide +kernel
theorem dX9_multiplies_61 : decode cX9_multiplies 61 = .ok (.goto (-44), 3) := by decide +kernel
theorem dX9_multiplies_64 : decode cX9_multiplies 64 = .ok (.iload_n 3, 1) := by decide +kernel
theorem dX9_multiplies_65 : decode cX9_multiplies 65 = .ok (.ireturn, 1) := by decide +kernel
theorem dX9_multipliersOf_0 : decode cX9_multipliersOf 0 = .ok (.iconst 0, 1) := by decide +kernel
theorem dX9_multipliersOf_1 : decode cX9_multipliersOf 1 = .ok (.istore_n 2, 1) := by decide +kernel
theorem dX9_multipliersOf_2 : decode cX9_multipliersOf 2 = .ok (.iconst 1, 1) := by decide +kernel
theorem dX9_multipliersOf_3 : decode cX9_multipliersOf 3 = .ok (.istore_n 3, 1) := by decide +kernel
theorem dX9_multipliersOf_4 : decode cX9_multipliersOf 4 = .ok (.iload_n 3, 1) := by decide +kernel
theorem dX9_multipliersOf_5 : decode cX9_multipliersOf 5 = .ok (.aload_n 0, 1) := by decide +kernel
theorem dX9_multipliersOf_6 : decode cX9_multipliersOf 6 = .ok (.invokevirtual 98, 3) := by decide +kernel
theorem dX9_multipliersOf_9 : decode cX9_multipliersOf 9 = .ok (.if_icmp .ge 38, 3) := by decide +kernel
theorem dX9_multipliersOf_12 : decode cX9_multipliersOf 12 = .ok (.iload_n 2, 1) := by decide +kernel
theorem dX9_multipliersOf_13 : decode cX9_multipliersOf 13 = .ok (.iload_n 3, 1) := by decide +kernel
theorem dX9_multipliersOf_14 : decode cX9_multipliersOf 14 = .ok (.aload_n 0, 1) := by decide +kernel
theorem dX9_multipliersOf_15 : decode cX9_multipliersOf 15 = .ok (.invokevirtual 98, 3) := by decide +kernel
theorem dX9_multipliersOf_18 : decode cX9_multipliersOf 18 = .ok (.invokestatic 120, 3) := by decide +kernel
theorem dX9_multipliersOf_21 : decode cX9_multipliersOf 21 = .ok (.iconst 1, 1) := by decide +kernel
theorem dX9_multipliersOf_22 : decode cX9_multipliersOf 22 = .ok (.if_icmp .ne 16, 3) := by decide +kernel
theorem dX9_multipliersOf_25 : decode cX9_multipliersOf 25 = .ok (.aload_n 0, 1) := by decide +kernel
theorem dX9_multipliersOf_26 : decode cX9_multipliersOf 26 = .ok (.iload_n 1, 1) := by decide +kernel
theorem dX9_multipliersOf_27 : decode cX9_multipliersOf 27 = .ok (.iload_n 3, 1) := by decide +kernel
theorem dX9_multipliersOf_28 : decode cX9_multipliersOf 28 = .ok (.invokevirtual 123, 3) := by decide +kernel
theorem dX9_multipliersOf_31 : decode cX9_multipliersOf 31 = .ok (.ifCond .eq 7, 3) := by decide +kernel
theorem dX9_multipliersOf_34 : decode cX9_multipliersOf 34 = .ok (.iconst 1, 1) := by decide +kernel
theorem dX9_multipliersOf_35 : decode cX9_multipliersOf 35 = .ok (.goto 4, 3) := by decide +kernel
theorem dX9_multipliersOf_38 : decode cX9_multipliersOf 38 = .ok (.iconst 0, 1) := by decide +kernel
theorem dX9_multipliersOf_39 : decode cX9_multipliersOf 39 = .ok (.iadd, 1) := by decide +kernel
theorem dX9_multipliersOf_40 : decode cX9_multipliersOf 40 = .ok (.istore_n 2, 1) := by decide +kernel
theorem dX9_multipliersOf_41 : decode cX9_multipliersOf 41 = .ok (.iinc 3 1, 3) := by decide +kernel
theorem dX9_multipliersOf_44 : decode cX9_multipliersOf 44 = .ok (.goto (-40), 3) := by decide +kernel
theorem dX9_multipliersOf_47 : decode cX9_multipliersOf 47 = .ok (.iload_n 2, 1) := by decide +kernel
theorem dX9_multipliersOf_48 : decode cX9_multipliersOf 48 = .ok (.ireturn, 1) := by decide +kernel
theorem dX9_multipliers_0 : decode cX9_multipliers 0 = .ok (.aload_n 0, 1) := by decide +kernel
theorem dX9_multipliers_1 : decode cX9_multipliers 1 = .ok (.aload_n 0, 1) := by decide +kernel
theorem dX9_multipliers_2 : decode cX9_multipliers 2 = .ok (.iload_n 1, 1) := by decide +kernel
theorem dX9_multipliers_3 : decode cX9_multipliers 3 = .ok (.invokevirtual 111, 3) := by decide +kernel
theorem dX9_multipliers_6 : decode cX9_multipliers 6 = .ok (.invokevirtual 39, 3) := by decide +kernel
theorem dX9_multipliers_9 : decode cX9_multipliers 9 = .ok (.ifCond .eq 7, 3) := by decide +kernel
theorem dX9_multipliers_12 : decode cX9_multipliers 12 = .ok (.iconst 0, 1) := by decide +kernel
theorem dX9_multipliers_13 : decode cX9_multipliers 13 = .ok (.goto 8, 3) := by decide +kernel
theorem dX9_multipliers_16 : decode cX9_multipliers 16 = .ok (.aload_n 0, 1) := by decide +kernel
theorem dX9_multipliers_17 : decode cX9_multipliers 17 = .ok (.iload_n 1, 1) := by decide +kernel
theorem dX9_multipliers_18 : decode cX9_multipliers 18 = .ok (.invokevirtual 127, 3) := by decide +kernel
theorem dX9_multipliers_21 : decode cX9_multipliers 21 = .ok (.ireturn, 1) := by decide +kernel
theorem dX9_isAhead_0 : decode cX9_isAhead 0 = .ok (.iconst 0, 1) := by decide +kernel
theorem dX9_isAhead_1 : decode cX9_isAhead 1 = .ok (.istore_n 1, 1) := by decide +kernel
theorem dX9_isAhead_2 : decode cX9_isAhead 2 = .ok (.iload_n 1, 1) := by decide +kernel
theorem dX9_isAhead_3 : decode cX9_isAhead 3 = .ok (.aload_n 0, 1) := by decide +kernel
theorem dX9_isAhead_4 : decode cX9_isAhead 4 = .ok (.getfield 43, 3) := by decide +kernel
theorem dX9_isAhead_7 : decode cX9_isAhead 7 = .ok (.if_icmp .ge 24, 3) := by decide +kernel
theorem dX9_isAhead_10 : decode cX9_isAhead 10 = .ok (.aload_n 0, 1) := by decide +kernel
theorem dX9_isAhead_11 : decode cX9_isAhead 11 = .ok (.getfield 16, 3) := by decide +kernel
theorem dX9_isAhead_14 : decode cX9_isAhead 14 = .ok (.iload_n 1, 1) := by decide +kernel
theorem dX9_isAhead_15 : decode cX9_isAhead 15 = .ok (.iaload, 1) := by decide +kernel
theorem dX9_isAhead_16 : decode cX9_isAhead 16 = .ok (.aload_n 0, 1) := by decide +kernel
theorem dX9_isAhead_17 : decode cX9_isAhead 17 = .ok (.getfield 22, 3) := by decide +kernel
theorem dX9_isAhead_20 : decode cX9_isAhead 20 = .ok (.iload_n 1, 1) := by decide +kernel
theorem dX9_isAhead_21 : decode cX9_isAhead 21 = .ok (.iaload, 1) := by decide +kernel
theorem dX9_isAhead_22 : decode cX9_isAhead 22 = .ok (.if_icmp .ne 9, 3) := by decide +kernel
theorem dX9_isAhead_25 : decode cX9_isAhead 25 = .ok (.iinc 1 1, 3) := by decide +kernel
theorem dX9_isAhead_28 : decode cX9_isAhead 28 = .ok (.goto (-26), 3) := by decide +kernel
theorem dX9_isAhead_31 : decode cX9_isAhead 31 = .ok (.iload_n 1, 1) := by decide +kernel
theorem dX9_isAhead_32 : decode cX9_isAhead 32 = .ok (.aload_n 0, 1) := by decide +kernel
theorem dX9_isAhead_33 : decode cX9_isAhead 33 = .ok (.getfield 43, 3) := by decide +kernel
theorem dX9_isAhead_36 : decode cX9_isAhead 36 = .ok (.if_icmp .ge 22, 3) := by decide +kernel
theorem dX9_isAhead_39 : decode cX9_isAhead 39 = .ok (.aload_n 0, 1) := by decide +kernel
theorem dX9_isAhead_40 : decode cX9_isAhead 40 = .ok (.getfield 16, 3) := by decide +kernel
theorem dX9_isAhead_43 : decode cX9_isAhead 43 = .ok (.iload_n 1, 1) := by decide +kernel
theorem dX9_isAhead_44 : decode cX9_isAhead 44 = .ok (.iaload, 1) := by decide +kernel
theorem dX9_isAhead_45 : decode cX9_isAhead 45 = .ok (.aload_n 0, 1) := by decide +kernel
theorem dX9_isAhead_46 : decode cX9_isAhead 46 = .ok (.getfield 22, 3) := by decide +kernel
theorem dX9_isAhead_49 : decode cX9_isAhead 49 = .ok (.iload_n 1, 1) := by decide +kernel
theorem dX9_isAhead_50 : decode cX9_isAhead 50 = .ok (.iaload, 1) := by decide +kernel
theorem dX9_isAhead_51 : decode cX9_isAhead 51 = .ok (.if_icmp .ge 7, 3) := by decide +kernel
theorem dX9_isAhead_54 : decode cX9_isAhead 54 = .ok (.iconst 1, 1) := by decide +kernel
theorem dX9_isAhead_55 : decode cX9_isAhead 55 = .ok (.goto 4, 3) := by decide +kernel
theorem dX9_isAhead_58 : decode cX9_isAhead 58 = .ok (.iconst 0, 1) := by decide +kernel
theorem dX9_isAhead_59 : decode cX9_isAhead 59 = .ok (.ireturn, 1) := by decide +kernel
theorem dX9_canonical_0 : decode cX9_canonical 0 = .ok (.aload_n 0, 1) := by decide +kernel
theorem dX9_canonical_1 : decode cX9_canonical 1 = .ok (.iload_n 1, 1) := by decide +kernel
theorem dX9_canonical_2 : decode cX9_canonical 2 = .ok (.invokestatic 61, 3) := by decide +kernel
theorem dX9_canonical_5 : decode cX9_canonical 5 = .ok (.ifCond .eq 10, 3) := by decide +kernel
theorem dX9_canonical_8 : decode cX9_canonical 8 = .ok (.iload_n 2, 1) := by decide +kernel
theorem dX9_canonical_9 : decode cX9_canonical 9 = .ok (.invokestatic 61, 3) := by decide +kernel
theorem dX9_canonical_12 : decode cX9_canonical 12 = .ok (.ifCond .ne 7, 3) := by decide +kernel
theorem dX9_canonical_15 : decode cX9_canonical 15 = .ok (.iconst 1, 1) := by decide +kernel
theorem dX9_canonical_16 : decode cX9_canonical 16 = .ok (.goto 24, 3) := by decide +kernel
theorem dX9_canonical_19 : decode cX9_canonical 19 = .ok (.aload_n 0, 1) := by decide +kernel
theorem dX9_canonical_20 : decode cX9_canonical 20 = .ok (.iload_n 1, 1) := by decide +kernel
theorem dX9_canonical_21 : decode cX9_canonical 21 = .ok (.invokevirtual 46, 3) := by decide +kernel
theorem dX9_canonical_24 : decode cX9_canonical 24 = .ok (.ifCond .eq 11, 3) := by decide +kernel
theorem dX9_canonical_27 : decode cX9_canonical 27 = .ok (.aload_n 0, 1) := by decide +kernel
theorem dX9_canonical_28 : decode cX9_canonical 28 = .ok (.iload_n 1, 1) := by decide +kernel
theorem dX9_canonical_29 : decode cX9_canonical 29 = .ok (.invokevirtual 105, 3) := by decide +kernel
theorem dX9_canonical_32 : decode cX9_canonical 32 = .ok (.ifCond .ne 7, 3) := by decide +kernel
theorem dX9_canonical_35 : decode cX9_canonical 35 = .ok (.iconst 2, 1) := by decide +kernel
theorem dX9_canonical_36 : decode cX9_canonical 36 = .ok (.goto 4, 3) := by decide +kernel
theorem dX9_canonical_39 : decode cX9_canonical 39 = .ok (.iconst 0, 1) := by decide +kernel
theorem dX9_canonical_40 : decode cX9_canonical 40 = .ok (.invokevirtual 39, 3) := by decide +kernel
theorem dX9_canonical_43 : decode cX9_canonical 43 = .ok (.ifCond .eq 5, 3) := by decide +kernel
theorem dX9_canonical_46 : decode cX9_canonical 46 = .ok (.iconst 0, 1) := by decide +kernel
theorem dX9_canonical_47 : decode cX9_canonical 47 = .ok (.ireturn, 1) := by decide +kernel
theorem dX9_canonical_48 : decode cX9_canonical 48 = .ok (.aload_n 0, 1) := by decide +kernel
theorem dX9_canonical_49 : decode cX9_canonical 49 = .ok (.invokevirtual 67, 3) := by decide +kernel
theorem dX9_canonical_52 : decode cX9_canonical 52 = .ok (.aload_n 0, 1) := by decide +kernel
theorem dX9_canonical_53 : decode cX9_canonical 53 = .ok (.iload_n 1, 1) := by decide +kernel
theorem dX9_canonical_54 : decode cX9_canonical 54 = .ok (.invokevirtual 46, 3) := by decide +kernel
theorem dX9_canonical_57 : decode cX9_canonical 57 = .ok (.istore_n 3, 1) := by decide +kernel
theorem dX9_canonical_58 : decode cX9_canonical 58 = .ok (.iconst 0, 1) := by decide +kernel
theorem dX9_canonical_59 : decode cX9_canonical 59 = .ok (.istore 4, 2) := by decide +kernel
theorem dX9_canonical_61 : decode cX9_canonical 61 = .ok (.iload 4, 2) := by decide +kernel
theorem dX9_canonical_63 : decode cX9_canonical 63 = .ok (.iload_n 3, 1) := by decide +kernel
theorem dX9_canonical_64 : decode cX9_canonical 64 = .ok (.if_icmp .ge 19, 3) := by decide +kernel
theorem dX9_canonical_67 : decode cX9_canonical 67 = .ok (.aload_n 0, 1) := by decide +kernel
theorem dX9_canonical_68 : decode cX9_canonical 68 = .ok (.getfield 22, 3) := by decide +kernel
theorem dX9_canonical_71 : decode cX9_canonical 71 = .ok (.iload 4, 2) := by decide +kernel
theorem dX9_canonical_73 : decode cX9_canonical 73 = .ok (.sipush 2000, 3) := by decide +kernel
theorem dX9_canonical_76 : decode cX9_canonical 76 = .ok (.iastore, 1) := by decide +kernel
theorem dX9_canonical_77 : decode cX9_canonical 77 = .ok (.iinc 4 1, 3) := by decide +kernel
theorem dX9_canonical_80 : decode cX9_canonical 80 = .ok (.goto (-19), 3) := by decide +kernel
theorem dX9_canonical_83 : decode cX9_canonical 83 = .ok (.iconst 1, 1) := by decide +kernel
theorem dX9_canonical_84 : decode cX9_canonical 84 = .ok (.istore 4, 2) := by decide +kernel
theorem dX9_canonical_86 : decode cX9_canonical 86 = .ok (.iload 4, 2) := by decide +kernel
theorem dX9_canonical_88 : decode cX9_canonical 88 = .ok (.aload_n 0, 1) := by decide +kernel
theorem dX9_canonical_89 : decode cX9_canonical 89 = .ok (.invokevirtual 98, 3) := by decide +kernel
theorem dX9_canonical_92 : decode cX9_canonical 92 = .ok (.if_icmp .ge 96, 3) := by decide +kernel
theorem dX9_canonical_95 : decode cX9_canonical 95 = .ok (.iconst 0, 1) := by decide +kernel
theorem dX9_canonical_96 : decode cX9_canonical 96 = .ok (.istore 5, 2) := by decide +kernel
theorem dX9_canonical_98 : decode cX9_canonical 98 = .ok (.iload 5, 2) := by decide +kernel
theorem dX9_canonical_100 : decode cX9_canonical 100 = .ok (.iload_n 3, 1) := by decide +kernel
theorem dX9_canonical_101 : decode cX9_canonical 101 = .ok (.if_icmp .ge 81, 3) := by decide +kernel
theorem dX9_canonical_104 : decode cX9_canonical 104 = .ok (.iload 4, 2) := by decide +kernel
theorem dX9_canonical_106 : decode cX9_canonical 106 = .ok (.aload_n 0, 1) := by decide +kernel
theorem dX9_canonical_107 : decode cX9_canonical 107 = .ok (.invokevirtual 98, 3) := by decide +kernel
theorem dX9_canonical_110 : decode cX9_canonical 110 = .ok (.invokestatic 120, 3) := by decide +kernel
theorem dX9_canonical_113 : decode cX9_canonical 113 = .ok (.iconst 1, 1) := by decide +kernel
theorem dX9_canonical_114 : decode cX9_canonical 114 = .ok (.if_icmp .ne 68, 3) := by decide +kernel
theorem dX9_canonical_117 : decode cX9_canonical 117 = .ok (.aload_n 0, 1) := by decide +kernel
theorem dX9_canonical_118 : decode cX9_canonical 118 = .ok (.invokevirtual 54, 3) := by decide +kernel
theorem dX9_canonical_121 : decode cX9_canonical 121 = .ok (.iconst 0, 1) := by decide +kernel
theorem dX9_canonical_122 : decode cX9_canonical 122 = .ok (.istore 6, 2) := by decide +kernel
theorem dX9_canonical_124 : decode cX9_canonical 124 = .ok (.iload 6, 2) := by decide +kernel
theorem dX9_canonical_126 : decode cX9_canonical 126 = .ok (.iload_n 3, 1) := by decide +kernel
theorem dX9_canonical_127 : decode cX9_canonical 127 = .ok (.if_icmp .ge 38, 3) := by decide +kernel
theorem dX9_canonical_130 : decode cX9_canonical 130 = .ok (.aload_n 0, 1) := by decide +kernel
theorem dX9_canonical_131 : decode cX9_canonical 131 = .ok (.aload_n 0, 1) := by decide +kernel
theorem dX9_canonical_132 : decode cX9_canonical 132 = .ok (.iload 4, 2) := by decide +kernel
theorem dX9_canonical_134 : decode cX9_canonical 134 = .ok (.aload_n 0, 1) := by decide +kernel
theorem dX9_canonical_135 : decode cX9_canonical 135 = .ok (.iload_n 1, 1) := by decide +kernel
theorem dX9_canonical_136 : decode cX9_canonical 136 = .ok (.iload 6, 2) := by decide +kernel
theorem dX9_canonical_138 : decode cX9_canonical 138 = .ok (.invokevirtual 50, 3) := by decide +kernel
theorem dX9_canonical_141 : decode cX9_canonical 141 = .ok (.imul, 1) := by decide +kernel
theorem dX9_canonical_142 : decode cX9_canonical 142 = .ok (.iload 4, 2) := by decide +kernel
theorem dX9_canonical_144 : decode cX9_canonical 144 = .ok (.aload_n 0, 1) := by decide +kernel
theorem dX9_canonical_145 : decode cX9_canonical 145 = .ok (.iload_n 1, 1) := by decide +kernel
theorem dX9_canonical_146 : decode cX9_canonical 146 = .ok (.iload 5, 2) := by decide +kernel
theorem dX9_canonical_148 : decode cX9_canonical 148 = .ok (.invokevirtual 50, 3) := by decide +kernel
theorem dX9_canonical_151 : decode cX9_canonical 151 = .ok (.imul, 1) := by decide +kernel
theorem dX9_canonical_152 : decode cX9_canonical 152 = .ok (.isub, 1) := by decide +kernel
theorem dX9_canonical_153 : decode cX9_canonical 153 = .ok (.invokevirtual 102, 3) := by decide +kernel
theorem dX9_canonical_156 : decode cX9_canonical 156 = .ok (.invokevirtual 57, 3) := by decide +kernel
theorem dX9_canonical_159 : decode cX9_canonical 159 = .ok (.iinc 6 1, 3) := by decide +kernel
theorem dX9_canonical_162 : decode cX9_canonical 162 = .ok (.goto (-38), 3) := by decide +kernel
theorem dX9_canonical_165 : decode cX9_canonical 165 = .ok (.aload_n 0, 1) := by decide +kernel
theorem dX9_canonical_166 : decode cX9_canonical 166 = .ok (.invokevirtual 130, 3) := by decide +kernel
theorem dX9_canonical_169 : decode cX9_canonical 169 = .ok (.ifCond .eq 7, 3) := by decide +kernel
theorem dX9_canonical_172 : decode cX9_canonical 172 = .ok (.aload_n 0, 1) := by decide +kernel
theorem dX9_canonical_173 : decode cX9_canonical 173 = .ok (.invokevirtual 134, 3) := by decide +kernel
theorem dX9_canonical_176 : decode cX9_canonical 176 = .ok (.iinc 5 1, 3) := by decide +kernel
theorem dX9_canonical_179 : decode cX9_canonical 179 = .ok (.goto (-81), 3) := by decide +kernel
theorem dX9_canonical_182 : decode cX9_canonical 182 = .ok (.iinc 4 1, 3) := by decide +kernel
theorem dX9_canonical_185 : decode cX9_canonical 185 = .ok (.goto (-99), 3) := by decide +kernel
theorem dX9_canonical_188 : decode cX9_canonical 188 = .ok (.aload_n 0, 1) := by decide +kernel
theorem dX9_canonical_189 : decode cX9_canonical 189 = .ok (.invokevirtual 54, 3) := by decide +kernel
theorem dX9_canonical_192 : decode cX9_canonical 192 = .ok (.iconst 0, 1) := by decide +kernel
theorem dX9_canonical_193 : decode cX9_canonical 193 = .ok (.istore 4, 2) := by decide +kernel
theorem dX9_canonical_195 : decode cX9_canonical 195 = .ok (.iload 4, 2) := by decide +kernel
theorem dX9_canonical_197 : decode cX9_canonical 197 = .ok (.iload_n 3, 1) := by decide +kernel
theorem dX9_canonical_198 : decode cX9_canonical 198 = .ok (.if_icmp .ge 20, 3) := by decide +kernel
theorem dX9_canonical_201 : decode cX9_canonical 201 = .ok (.aload_n 0, 1) := by decide +kernel
theorem dX9_canonical_202 : decode cX9_canonical 202 = .ok (.aload_n 0, 1) := by decide +kernel
theorem dX9_canonical_203 : decode cX9_canonical 203 = .ok (.getfield 22, 3) := by decide +kernel
theorem dX9_canonical_206 : decode cX9_canonical 206 = .ok (.iload 4, 2) := by decide +kernel
theorem dX9_canonical_208 : decode cX9_canonical 208 = .ok (.iaload, 1) := by decide +kernel
theorem dX9_canonical_209 : decode cX9_canonical 209 = .ok (.invokevirtual 57, 3) := by decide +kernel
theorem dX9_canonical_212 : decode cX9_canonical 212 = .ok (.iinc 4 1, 3) := by decide +kernel
theorem dX9_canonical_215 : decode cX9_canonical 215 = .ok (.goto (-20), 3) := by decide +kernel
theorem dX9_canonical_218 : decode cX9_canonical 218 = .ok (.aload_n 0, 1) := by decide +kernel
theorem dX9_canonical_219 : decode cX9_canonical 219 = .ok (.iload_n 2, 1) := by decide +kernel
theorem dX9_canonical_220 : decode cX9_canonical 220 = .ok (.invokevirtual 74, 3) := by decide +kernel
theorem dX9_canonical_223 : decode cX9_canonical 223 = .ok (.ireturn, 1) := by decide +kernel
theorem dX9_keepsFirst_0 : decode cX9_keepsFirst 0 = .ok (.iconst 0, 1) := by decide +kernel
theorem dX9_keepsFirst_1 : decode cX9_keepsFirst 1 = .ok (.istore_n 1, 1) := by decide +kernel
theorem dX9_keepsFirst_2 : decode cX9_keepsFirst 2 = .ok (.iload_n 1, 1) := by decide +kernel
theorem dX9_keepsFirst_3 : decode cX9_keepsFirst 3 = .ok (.aload_n 0, 1) := by decide +kernel
theorem dX9_keepsFirst_4 : decode cX9_keepsFirst 4 = .ok (.getfield 43, 3) := by decide +kernel
theorem dX9_keepsFirst_7 : decode cX9_keepsFirst 7 = .ok (.if_icmp .ge 21, 3) := by decide +kernel
theorem dX9_keepsFirst_10 : decode cX9_keepsFirst 10 = .ok (.aload_n 0, 1) := by decide +kernel
theorem dX9_keepsFirst_11 : decode cX9_keepsFirst 11 = .ok (.getfield 22, 3) := by decide +kernel
theorem dX9_keepsFirst_14 : decode cX9_keepsFirst 14 = .ok (.iload_n 1, 1) := by decide +kernel
theorem dX9_keepsFirst_15 : decode cX9_keepsFirst 15 = .ok (.aload_n 0, 1) := by decide +kernel
theorem dX9_keepsFirst_16 : decode cX9_keepsFirst 16 = .ok (.getfield 16, 3) := by decide +kernel
theorem dX9_keepsFirst_19 : decode cX9_keepsFirst 19 = .ok (.iload_n 1, 1) := by decide +kernel
theorem dX9_keepsFirst_20 : decode cX9_keepsFirst 20 = .ok (.iaload, 1) := by decide +kernel
theorem dX9_keepsFirst_21 : decode cX9_keepsFirst 21 = .ok (.iastore, 1) := by decide +kernel
theorem dX9_keepsFirst_22 : decode cX9_keepsFirst 22 = .ok (.iinc 1 1, 3) := by decide +kernel
theorem dX9_keepsFirst_25 : decode cX9_keepsFirst 25 = .ok (.goto (-23), 3) := by decide +kernel
theorem dX9_keepsFirst_28 : decode cX9_keepsFirst 28 = .ok (.return_, 1) := by decide +kernel
theorem dX9_isPrime_0 : decode cX9_isPrime 0 = .ok (.iload_n 0, 1) := by decide +kernel
theorem dX9_isPrime_1 : decode cX9_isPrime 1 = .ok (.iconst 3, 1) := by decide +kernel
theorem dX9_isPrime_2 : decode cX9_isPrime 2 = .ok (.bipush 23, 2) := by decide +kernel
theorem dX9_isPrime_4 : decode cX9_isPrime 4 = .ok (.invokestatic 32, 3) := by decide +kernel
theorem dX9_isPrime_7 : decode cX9_isPrime 7 = .ok (.istore_n 1, 1) := by decide +kernel
theorem dX9_isPrime_8 : decode cX9_isPrime 8 = .ok (.iconst 2, 1) := by decide +kernel
theorem dX9_isPrime_9 : decode cX9_isPrime 9 = .ok (.istore_n 2, 1) := by decide +kernel
theorem dX9_isPrime_10 : decode cX9_isPrime 10 = .ok (.iload_n 2, 1) := by decide +kernel
theorem dX9_isPrime_11 : decode cX9_isPrime 11 = .ok (.iload_n 0, 1) := by decide +kernel
theorem dX9_isPrime_12 : decode cX9_isPrime 12 = .ok (.if_icmp .ge 25, 3) := by decide +kernel
theorem dX9_isPrime_15 : decode cX9_isPrime 15 = .ok (.iload_n 1, 1) := by decide +kernel
theorem dX9_isPrime_16 : decode cX9_isPrime 16 = .ok (.ifCond .eq 21, 3) := by decide +kernel
theorem dX9_isPrime_19 : decode cX9_isPrime 19 = .ok (.iload_n 0, 1) := by decide +kernel
theorem dX9_isPrime_20 : decode cX9_isPrime 20 = .ok (.iload_n 2, 1) := by decide +kernel
theorem dX9_isPrime_21 : decode cX9_isPrime 21 = .ok (.irem, 1) := by decide +kernel
theorem dX9_isPrime_22 : decode cX9_isPrime 22 = .ok (.ifCond .eq 7, 3) := by decide +kernel
theorem dX9_isPrime_25 : decode cX9_isPrime 25 = .ok (.iconst 1, 1) := by decide +kernel
theorem dX9_isPrime_26 : decode cX9_isPrime 26 = .ok (.goto 4, 3) := by decide +kernel
theorem dX9_isPrime_29 : decode cX9_isPrime 29 = .ok (.iconst 0, 1) := by decide +kernel
theorem dX9_isPrime_30 : decode cX9_isPrime 30 = .ok (.istore_n 1, 1) := by decide +kernel
theorem dX9_isPrime_31 : decode cX9_isPrime 31 = .ok (.iinc 2 1, 3) := by decide +kernel
theorem dX9_isPrime_34 : decode cX9_isPrime 34 = .ok (.goto (-24), 3) := by decide +kernel
theorem dX9_isPrime_37 : decode cX9_isPrime 37 = .ok (.iload_n 1, 1) := by decide +kernel
theorem dX9_isPrime_38 : decode cX9_isPrime 38 = .ok (.ireturn, 1) := by decide +kernel
theorem dX9_isRoot_0 : decode cX9_isRoot 0 = .ok (.iload_n 1, 1) := by decide +kernel
theorem dX9_isRoot_1 : decode cX9_isRoot 1 = .ok (.iconst 2, 1) := by decide +kernel
theorem dX9_isRoot_2 : decode cX9_isRoot 2 = .ok (.iload_n 0, 1) := by decide +kernel
theorem dX9_isRoot_3 : decode cX9_isRoot 3 = .ok (.iconst 1, 1) := by decide +kernel
theorem dX9_isRoot_4 : decode cX9_isRoot 4 = .ok (.isub, 1) := by decide +kernel
theorem dX9_isRoot_5 : decode cX9_isRoot 5 = .ok (.invokestatic 32, 3) := by decide +kernel
theorem dX9_isRoot_8 : decode cX9_isRoot 8 = .ok (.ifCond .ne 5, 3) := by decide +kernel
theorem dX9_isRoot_11 : decode cX9_isRoot 11 = .ok (.iconst 0, 1) := by decide +kernel
theorem dX9_isRoot_12 : decode cX9_isRoot 12 = .ok (.ireturn, 1) := by decide +kernel
theorem dX9_isRoot_13 : decode cX9_isRoot 13 = .ok (.iload_n 1, 1) := by decide +kernel
theorem dX9_isRoot_14 : decode cX9_isRoot 14 = .ok (.istore_n 2, 1) := by decide +kernel
theorem dX9_isRoot_15 : decode cX9_isRoot 15 = .ok (.iconst 1, 1) := by decide +kernel
theorem dX9_isRoot_16 : decode cX9_isRoot 16 = .ok (.istore_n 3, 1) := by decide +kernel
theorem dX9_isRoot_17 : decode cX9_isRoot 17 = .ok (.iload_n 2, 1) := by decide +kernel
theorem dX9_isRoot_18 : decode cX9_isRoot 18 = .ok (.iconst 1, 1) := by decide +kernel
theorem dX9_isRoot_19 : decode cX9_isRoot 19 = .ok (.if_icmp .eq 15, 3) := by decide +kernel
theorem dX9_isRoot_22 : decode cX9_isRoot 22 = .ok (.iload_n 2, 1) := by decide +kernel
theorem dX9_isRoot_23 : decode cX9_isRoot 23 = .ok (.iload_n 1, 1) := by decide +kernel
theorem dX9_isRoot_24 : decode cX9_isRoot 24 = .ok (.imul, 1) := by decide +kernel
theorem dX9_isRoot_25 : decode cX9_isRoot 25 = .ok (.iload_n 0, 1) := by decide +kernel
theorem dX9_isRoot_26 : decode cX9_isRoot 26 = .ok (.irem, 1) := by decide +kernel
theorem dX9_isRoot_27 : decode cX9_isRoot 27 = .ok (.istore_n 2, 1) := by decide +kernel
theorem dX9_isRoot_28 : decode cX9_isRoot 28 = .ok (.iinc 3 1, 3) := by decide +kernel
theorem dX9_isRoot_31 : decode cX9_isRoot 31 = .ok (.goto (-14), 3) := by decide +kernel
theorem dX9_isRoot_34 : decode cX9_isRoot 34 = .ok (.iload_n 3, 1) := by decide +kernel
theorem dX9_isRoot_35 : decode cX9_isRoot 35 = .ok (.iload_n 0, 1) := by decide +kernel
theorem dX9_isRoot_36 : decode cX9_isRoot 36 = .ok (.iconst 1, 1) := by decide +kernel
theorem dX9_isRoot_37 : decode cX9_isRoot 37 = .ok (.isub, 1) := by decide +kernel
theorem dX9_isRoot_38 : decode cX9_isRoot 38 = .ok (.if_icmp .ne 7, 3) := by decide +kernel
theorem dX9_isRoot_41 : decode cX9_isRoot 41 = .ok (.iconst 1, 1) := by decide +kernel
theorem dX9_isRoot_42 : decode cX9_isRoot 42 = .ok (.goto 4, 3) := by decide +kernel
theorem dX9_isRoot_45 : decode cX9_isRoot 45 = .ok (.iconst 0, 1) := by decide +kernel
theorem dX9_isRoot_46 : decode cX9_isRoot 46 = .ok (.ireturn, 1) := by decide +kernel
theorem dX9_erdosTuran_0 : decode cX9_erdosTuran 0 = .ok (.aload_n 0, 1) := by decide +kernel
theorem dX9_erdosTuran_1 : decode cX9_erdosTuran 1 = .ok (.iload_n 2, 1) := by decide +kernel
theorem dX9_erdosTuran_2 : decode cX9_erdosTuran 2 = .ok (.invokestatic 61, 3) := by decide +kernel
theorem dX9_erdosTuran_5 : decode cX9_erdosTuran 5 = .ok (.ifCond .ne 7, 3) := by decide +kernel
theorem dX9_erdosTuran_8 : decode cX9_erdosTuran 8 = .ok (.iconst 1, 1) := by decide +kernel
theorem dX9_erdosTuran_9 : decode cX9_erdosTuran 9 = .ok (.goto 15, 3) := by decide +kernel
theorem dX9_erdosTuran_12 : decode cX9_erdosTuran 12 = .ok (.iload_n 1, 1) := by decide +kernel
theorem dX9_erdosTuran_13 : decode cX9_erdosTuran 13 = .ok (.invokestatic 137, 3) := by decide +kernel
theorem dX9_erdosTuran_16 : decode cX9_erdosTuran 16 = .ok (.ifCond .eq 7, 3) := by decide +kernel
theorem dX9_erdosTuran_19 : decode cX9_erdosTuran 19 = .ok (.iconst 0, 1) := by decide +kernel
theorem dX9_erdosTuran_20 : decode cX9_erdosTuran 20 = .ok (.goto 4, 3) := by decide +kernel
theorem dX9_erdosTuran_23 : decode cX9_erdosTuran 23 = .ok (.iconst 2, 1) := by decide +kernel
theorem dX9_erdosTuran_24 : decode cX9_erdosTuran 24 = .ok (.invokevirtual 39, 3) := by decide +kernel
theorem dX9_erdosTuran_27 : decode cX9_erdosTuran 27 = .ok (.ifCond .eq 5, 3) := by decide +kernel
theorem dX9_erdosTuran_30 : decode cX9_erdosTuran 30 = .ok (.iconst 0, 1) := by decide +kernel
theorem dX9_erdosTuran_31 : decode cX9_erdosTuran 31 = .ok (.ireturn, 1) := by decide +kernel
theorem dX9_erdosTuran_32 : decode cX9_erdosTuran 32 = .ok (.aload_n 0, 1) := by decide +kernel
theorem dX9_erdosTuran_33 : decode cX9_erdosTuran 33 = .ok (.invokevirtual 67, 3) := by decide +kernel
theorem dX9_erdosTuran_36 : decode cX9_erdosTuran 36 = .ok (.aload_n 0, 1) := by decide +kernel
theorem dX9_erdosTuran_37 : decode cX9_erdosTuran 37 = .ok (.invokevirtual 54, 3) := by decide +kernel
theorem dX9_erdosTuran_40 : decode cX9_erdosTuran 40 = .ok (.iconst 0, 1) := by decide +kernel
theorem dX9_erdosTuran_41 : decode cX9_erdosTuran 41 = .ok (.istore_n 3, 1) := by decide +kernel
theorem dX9_erdosTuran_42 : decode cX9_erdosTuran 42 = .ok (.iload_n 3, 1) := by decide +kernel
theorem dX9_erdosTuran_43 : decode cX9_erdosTuran 43 = .ok (.iload_n 1, 1) := by decide +kernel
theorem dX9_erdosTuran_44 : decode cX9_erdosTuran 44 = .ok (.if_icmp .ge 24, 3) := by decide +kernel
theorem dX9_erdosTuran_47 : decode cX9_erdosTuran 47 = .ok (.aload_n 0, 1) := by decide +kernel
theorem dX9_erdosTuran_48 : decode cX9_erdosTuran 48 = .ok (.iconst 2, 1) := by decide +kernel
theorem dX9_erdosTuran_49 : decode cX9_erdosTuran 49 = .ok (.iload_n 1, 1) := by decide +kernel
theorem dX9_erdosTuran_50 : decode cX9_erdosTuran 50 = .ok (.imul, 1) := by decide +kernel
theorem dX9_erdosTuran_51 : decode cX9_erdosTuran 51 = .ok (.iload_n 3, 1) := by decide +kernel
theorem dX9_erdosTuran_52 : decode cX9_erdosTuran 52 = .ok (.imul, 1) := by decide +kernel
theorem dX9_erdosTuran_53 : decode cX9_erdosTuran 53 = .ok (.iload_n 3, 1) := by decide +kernel
theorem dX9_erdosTuran_54 : decode cX9_erdosTuran 54 = .ok (.iload_n 3, 1) := by decide +kernel
theorem dX9_erdosTuran_55 : decode cX9_erdosTuran 55 = .ok (.imul, 1) := by decide +kernel
theorem dX9_erdosTuran_56 : decode cX9_erdosTuran 56 = .ok (.iload_n 1, 1) := by decide +kernel
theorem dX9_erdosTuran_57 : decode cX9_erdosTuran 57 = .ok (.irem, 1) := by decide +kernel
theorem dX9_erdosTuran_58 : decode cX9_erdosTuran 58 = .ok (.iadd, 1) := by decide +kernel
theorem dX9_erdosTuran_59 : decode cX9_erdosTuran 59 = .ok (.invokevirtual 57, 3) := by decide +kernel
theorem dX9_erdosTuran_62 : decode cX9_erdosTuran 62 = .ok (.iinc 3 1, 3) := by decide +kernel
theorem dX9_erdosTuran_65 : decode cX9_erdosTuran 65 = .ok (.goto (-23), 3) := by decide +kernel
theorem dX9_erdosTuran_68 : decode cX9_erdosTuran 68 = .ok (.aload_n 0, 1) := by decide +kernel
theorem dX9_erdosTuran_69 : decode cX9_erdosTuran 69 = .ok (.iload_n 2, 1) := by decide +kernel
theorem dX9_erdosTuran_70 : decode cX9_erdosTuran 70 = .ok (.invokevirtual 74, 3) := by decide +kernel
theorem dX9_erdosTuran_73 : decode cX9_erdosTuran 73 = .ok (.pop, 1) := by decide +kernel
theorem dX9_erdosTuran_74 : decode cX9_erdosTuran 74 = .ok (.aload_n 0, 1) := by decide +kernel
theorem dX9_erdosTuran_75 : decode cX9_erdosTuran 75 = .ok (.iload_n 2, 1) := by decide +kernel
theorem dX9_erdosTuran_76 : decode cX9_erdosTuran 76 = .ok (.invokevirtual 77, 3) := by decide +kernel
theorem dX9_erdosTuran_79 : decode cX9_erdosTuran 79 = .ok (.ireturn, 1) := by decide +kernel
theorem dX9_ruzsa_0 : decode cX9_ruzsa 0 = .ok (.aload_n 0, 1) := by decide +kernel
theorem dX9_ruzsa_1 : decode cX9_ruzsa 1 = .ok (.iload_n 3, 1) := by decide +kernel
theorem dX9_ruzsa_2 : decode cX9_ruzsa 2 = .ok (.invokestatic 61, 3) := by decide +kernel
theorem dX9_ruzsa_5 : decode cX9_ruzsa 5 = .ok (.ifCond .ne 7, 3) := by decide +kernel
theorem dX9_ruzsa_8 : decode cX9_ruzsa 8 = .ok (.iconst 1, 1) := by decide +kernel
theorem dX9_ruzsa_9 : decode cX9_ruzsa 9 = .ok (.goto 23, 3) := by decide +kernel
theorem dX9_ruzsa_12 : decode cX9_ruzsa 12 = .ok (.iload_n 1, 1) := by decide +kernel
theorem dX9_ruzsa_13 : decode cX9_ruzsa 13 = .ok (.invokestatic 137, 3) := by decide +kernel
theorem dX9_ruzsa_16 : decode cX9_ruzsa 16 = .ok (.ifCond .eq 15, 3) := by decide +kernel
theorem dX9_ruzsa_19 : decode cX9_ruzsa 19 = .ok (.iload_n 1, 1) := by decide +kernel
theorem dX9_ruzsa_20 : decode cX9_ruzsa 20 = .ok (.iload_n 2, 1) := by decide +kernel
theorem dX9_ruzsa_21 : decode cX9_ruzsa 21 = .ok (.invokestatic 140, 3) := by decide +kernel
theorem dX9_ruzsa_24 : decode cX9_ruzsa 24 = .ok (.ifCond .eq 7, 3) := by decide +kernel
theorem dX9_ruzsa_27 : decode cX9_ruzsa 27 = .ok (.iconst 0, 1) := by decide +kernel
theorem dX9_ruzsa_28 : decode cX9_ruzsa 28 = .ok (.goto 4, 3) := by decide +kernel
theorem dX9_ruzsa_31 : decode cX9_ruzsa 31 = .ok (.iconst 2, 1) := by decide +kernel
theorem dX9_ruzsa_32 : decode cX9_ruzsa 32 = .ok (.invokevirtual 39, 3) := by decide +kernel
theorem dX9_ruzsa_35 : decode cX9_ruzsa 35 = .ok (.ifCond .eq 5, 3) := by decide +kernel
theorem dX9_ruzsa_38 : decode cX9_ruzsa 38 = .ok (.iconst 0, 1) := by decide +kernel
theorem dX9_ruzsa_39 : decode cX9_ruzsa 39 = .ok (.ireturn, 1) := by decide +kernel
theorem dX9_ruzsa_40 : decode cX9_ruzsa 40 = .ok (.aload_n 0, 1) := by decide +kernel
theorem dX9_ruzsa_41 : decode cX9_ruzsa 41 = .ok (.invokevirtual 67, 3) := by decide +kernel
theorem dX9_ruzsa_44 : decode cX9_ruzsa 44 = .ok (.aload_n 0, 1) := by decide +kernel
theorem dX9_ruzsa_45 : decode cX9_ruzsa 45 = .ok (.invokevirtual 54, 3) := by decide +kernel
theorem dX9_ruzsa_48 : decode cX9_ruzsa 48 = .ok (.iconst 1, 1) := by decide +kernel
theorem dX9_ruzsa_49 : decode cX9_ruzsa 49 = .ok (.istore 4, 2) := by decide +kernel
theorem dX9_ruzsa_51 : decode cX9_ruzsa 51 = .ok (.iconst 1, 1) := by decide +kernel
theorem dX9_ruzsa_52 : decode cX9_ruzsa 52 = .ok (.istore 5, 2) := by decide +kernel
theorem dX9_ruzsa_54 : decode cX9_ruzsa 54 = .ok (.iload 5, 2) := by decide +kernel
theorem dX9_ruzsa_56 : decode cX9_ruzsa 56 = .ok (.iload_n 1, 1) := by decide +kernel
theorem dX9_ruzsa_57 : decode cX9_ruzsa 57 = .ok (.if_icmp .ge 38, 3) := by decide +kernel
theorem dX9_ruzsa_60 : decode cX9_ruzsa 60 = .ok (.iload 4, 2) := by decide +kernel
theorem dX9_ruzsa_62 : decode cX9_ruzsa 62 = .ok (.iload_n 2, 1) := by decide +kernel
theorem dX9_ruzsa_63 : decode cX9_ruzsa 63 = .ok (.imul, 1) := by decide +kernel
theorem dX9_ruzsa_64 : decode cX9_ruzsa 64 = .ok (.iload_n 1, 1) := by decide +kernel
theorem dX9_ruzsa_65 : decode cX9_ruzsa 65 = .ok (.irem, 1) := by decide +kernel
theorem dX9_ruzsa_66 : decode cX9_ruzsa 66 = .ok (.istore 4, 2) := by decide +kernel
theorem dX9_ruzsa_68 : decode cX9_ruzsa 68 = .ok (.aload_n 0, 1) := by decide +kernel
theorem dX9_ruzsa_69 : decode cX9_ruzsa 69 = .ok (.iload_n 1, 1) := by decide +kernel
theorem dX9_ruzsa_70 : decode cX9_ruzsa 70 = .ok (.iload 5, 2) := by decide +kernel
theorem dX9_ruzsa_72 : decode cX9_ruzsa 72 = .ok (.imul, 1) := by decide +kernel
theorem dX9_ruzsa_73 : decode cX9_ruzsa 73 = .ok (.iload_n 1, 1) := by decide +kernel
theorem dX9_ruzsa_74 : decode cX9_ruzsa 74 = .ok (.iconst 1, 1) := by decide +kernel
theorem dX9_ruzsa_75 : decode cX9_ruzsa 75 = .ok (.isub, 1) := by decide +kernel
theorem dX9_ruzsa_76 : decode cX9_ruzsa 76 = .ok (.iload 4, 2) := by decide +kernel
theorem dX9_ruzsa_78 : decode cX9_ruzsa 78 = .ok (.imul, 1) := by decide +kernel
theorem dX9_ruzsa_79 : decode cX9_ruzsa 79 = .ok (.iadd, 1) := by decide +kernel
theorem dX9_ruzsa_80 : decode cX9_ruzsa 80 = .ok (.iload_n 1, 1) := by decide +kernel
theorem dX9_ruzsa_81 : decode cX9_ruzsa 81 = .ok (.iload_n 1, 1) := by decide +kernel
theorem dX9_ruzsa_82 : decode cX9_ruzsa 82 = .ok (.iconst 1, 1) := by decide +kernel
theorem dX9_ruzsa_83 : decode cX9_ruzsa 83 = .ok (.isub, 1) := by decide +kernel
theorem dX9_ruzsa_84 : decode cX9_ruzsa 84 = .ok (.imul, 1) := by decide +kernel
theorem dX9_ruzsa_85 : decode cX9_ruzsa 85 = .ok (.irem, 1) := by decide +kernel
theorem dX9_ruzsa_86 : decode cX9_ruzsa 86 = .ok (.invokevirtual 57, 3) := by decide +kernel
theorem dX9_ruzsa_89 : decode cX9_ruzsa 89 = .ok (.iinc 5 1, 3) := by decide +kernel
theorem dX9_ruzsa_92 : decode cX9_ruzsa 92 = .ok (.goto (-38), 3) := by decide +kernel
theorem dX9_ruzsa_95 : decode cX9_ruzsa 95 = .ok (.aload_n 0, 1) := by decide +kernel
theorem dX9_ruzsa_96 : decode cX9_ruzsa 96 = .ok (.iload_n 3, 1) := by decide +kernel
theorem dX9_ruzsa_97 : decode cX9_ruzsa 97 = .ok (.invokevirtual 74, 3) := by decide +kernel
theorem dX9_ruzsa_100 : decode cX9_ruzsa 100 = .ok (.pop, 1) := by decide +kernel
theorem dX9_ruzsa_101 : decode cX9_ruzsa 101 = .ok (.aload_n 0, 1) := by decide +kernel
theorem dX9_ruzsa_102 : decode cX9_ruzsa 102 = .ok (.getfield 7, 3) := by decide +kernel
theorem dX9_ruzsa_105 : decode cX9_ruzsa 105 = .ok (.iconst 0, 1) := by decide +kernel
theorem dX9_ruzsa_106 : decode cX9_ruzsa 106 = .ok (.iload_n 1, 1) := by decide +kernel
theorem dX9_ruzsa_107 : decode cX9_ruzsa 107 = .ok (.iload_n 1, 1) := by decide +kernel
theorem dX9_ruzsa_108 : decode cX9_ruzsa 108 = .ok (.iconst 1, 1) := by decide +kernel
theorem dX9_ruzsa_109 : decode cX9_ruzsa 109 = .ok (.isub, 1) := by decide +kernel
theorem dX9_ruzsa_110 : decode cX9_ruzsa 110 = .ok (.imul, 1) := by decide +kernel
theorem dX9_ruzsa_111 : decode cX9_ruzsa 111 = .ok (.iastore, 1) := by decide +kernel
theorem dX9_ruzsa_112 : decode cX9_ruzsa 112 = .ok (.aload_n 0, 1) := by decide +kernel
theorem dX9_ruzsa_113 : decode cX9_ruzsa 113 = .ok (.iload_n 3, 1) := by decide +kernel
theorem dX9_ruzsa_114 : decode cX9_ruzsa 114 = .ok (.invokevirtual 77, 3) := by decide +kernel
theorem dX9_ruzsa_117 : decode cX9_ruzsa 117 = .ok (.ireturn, 1) := by decide +kernel
theorem dX9_residues_0 : decode cX9_residues 0 = .ok (.aload_n 0, 1) := by decide +kernel
theorem dX9_residues_1 : decode cX9_residues 1 = .ok (.iload_n 2, 1) := by decide +kernel
theorem dX9_residues_2 : decode cX9_residues 2 = .ok (.invokestatic 61, 3) := by decide +kernel
theorem dX9_residues_5 : decode cX9_residues 5 = .ok (.ifCond .ne 7, 3) := by decide +kernel
theorem dX9_residues_8 : decode cX9_residues 8 = .ok (.iconst 1, 1) := by decide +kernel
theorem dX9_residues_9 : decode cX9_residues 9 = .ok (.goto 15, 3) := by decide +kernel
theorem dX9_residues_12 : decode cX9_residues 12 = .ok (.iload_n 1, 1) := by decide +kernel
theorem dX9_residues_13 : decode cX9_residues 13 = .ok (.invokestatic 137, 3) := by decide +kernel
theorem dX9_residues_16 : decode cX9_residues 16 = .ok (.ifCond .eq 7, 3) := by decide +kernel
theorem dX9_residues_19 : decode cX9_residues 19 = .ok (.iconst 0, 1) := by decide +kernel
theorem dX9_residues_20 : decode cX9_residues 20 = .ok (.goto 4, 3) := by decide +kernel
theorem dX9_residues_23 : decode cX9_residues 23 = .ok (.iconst 2, 1) := by decide +kernel
theorem dX9_residues_24 : decode cX9_residues 24 = .ok (.invokevirtual 39, 3) := by decide +kernel
theorem dX9_residues_27 : decode cX9_residues 27 = .ok (.ifCond .eq 5, 3) := by decide +kernel
theorem dX9_residues_30 : decode cX9_residues 30 = .ok (.iconst 0, 1) := by decide +kernel
theorem dX9_residues_31 : decode cX9_residues 31 = .ok (.ireturn, 1) := by decide +kernel
theorem dX9_residues_32 : decode cX9_residues 32 = .ok (.aload_n 0, 1) := by decide +kernel
theorem dX9_residues_33 : decode cX9_residues 33 = .ok (.invokevirtual 67, 3) := by decide +kernel
theorem dX9_residues_36 : decode cX9_residues 36 = .ok (.aload_n 0, 1) := by decide +kernel
theorem dX9_residues_37 : decode cX9_residues 37 = .ok (.invokevirtual 54, 3) := by decide +kernel
theorem dX9_residues_40 : decode cX9_residues 40 = .ok (.iconst 1, 1) := by decide +kernel
theorem dX9_residues_41 : decode cX9_residues 41 = .ok (.istore_n 3, 1) := by decide +kernel
theorem dX9_residues_42 : decode cX9_residues 42 = .ok (.iload_n 3, 1) := by decide +kernel
theorem dX9_residues_43 : decode cX9_residues 43 = .ok (.iload_n 1, 1) := by decide +kernel
theorem dX9_residues_44 : decode cX9_residues 44 = .ok (.if_icmp .ge 18, 3) := by decide +kernel
theorem dX9_residues_47 : decode cX9_residues 47 = .ok (.aload_n 0, 1) := by decide +kernel
theorem dX9_residues_48 : decode cX9_residues 48 = .ok (.iload_n 3, 1) := by decide +kernel
theorem dX9_residues_49 : decode cX9_residues 49 = .ok (.iload_n 3, 1) := by decide +kernel
theorem dX9_residues_50 : decode cX9_residues 50 = .ok (.imul, 1) := by decide +kernel
theorem dX9_residues_51 : decode cX9_residues 51 = .ok (.iload_n 1, 1) := by decide +kernel
theorem dX9_residues_52 : decode cX9_residues 52 = .ok (.irem, 1) := by decide +kernel
theorem dX9_residues_53 : decode cX9_residues 53 = .ok (.invokevirtual 57, 3) := by decide +kernel
theorem dX9_residues_56 : decode cX9_residues 56 = .ok (.iinc 3 1, 3) := by decide +kernel
theorem dX9_residues_59 : decode cX9_residues 59 = .ok (.goto (-17), 3) := by decide +kernel
theorem dX9_residues_62 : decode cX9_residues 62 = .ok (.aload_n 0, 1) := by decide +kernel
theorem dX9_residues_63 : decode cX9_residues 63 = .ok (.getfield 7, 3) := by decide +kernel
theorem dX9_residues_66 : decode cX9_residues 66 = .ok (.iconst 0, 1) := by decide +kernel
theorem dX9_residues_67 : decode cX9_residues 67 = .ok (.iload_n 1, 1) := by decide +kernel
theorem dX9_residues_68 : decode cX9_residues 68 = .ok (.iastore, 1) := by decide +kernel
theorem dX9_residues_69 : decode cX9_residues 69 = .ok (.aload_n 0, 1) := by decide +kernel
theorem dX9_residues_70 : decode cX9_residues 70 = .ok (.iload_n 2, 1) := by decide +kernel
theorem dX9_residues_71 : decode cX9_residues 71 = .ok (.invokevirtual 74, 3) := by decide +kernel
theorem dX9_residues_74 : decode cX9_residues 74 = .ok (.ireturn, 1) := by decide +kernel
theorem dX9_mayCome_0 : decode cX9_mayCome 0 = .ok (.iconst 1, 1) := by decide +kernel
theorem dX9_mayCome_1 : decode cX9_mayCome 1 = .ok (.istore_n 2, 1) := by decide +kernel
theorem dX9_mayCome_2 : decode cX9_mayCome 2 = .ok (.iconst 0, 1) := by decide +kernel
theorem dX9_mayCome_3 : decode cX9_mayCome 3 = .ok (.istore_n 3, 1) := by decide +kernel
theorem dX9_mayCome_4 : decode cX9_mayCome 4 = .ok (.iload_n 3, 1) := by decide +kernel
theorem dX9_mayCome_5 : decode cX9_mayCome 5 = .ok (.aload_n 0, 1) := by decide +kernel
theorem dX9_mayCome_6 : decode cX9_mayCome 6 = .ok (.getfield 43, 3) := by decide +kernel
theorem dX9_mayCome_9 : decode cX9_mayCome 9 = .ok (.if_icmp .ge 35, 3) := by decide +kernel
theorem dX9_mayCome_12 : decode cX9_mayCome 12 = .ok (.iload_n 2, 1) := by decide +kernel
theorem dX9_mayCome_13 : decode cX9_mayCome 13 = .ok (.ifCond .eq 23, 3) := by decide +kernel
theorem dX9_mayCome_16 : decode cX9_mayCome 16 = .ok (.aload_n 0, 1) := by decide +kernel
theorem dX9_mayCome_17 : decode cX9_mayCome 17 = .ok (.getfield 19, 3) := by decide +kernel
theorem dX9_mayCome_20 : decode cX9_mayCome 20 = .ok (.iload_n 1, 1) := by decide +kernel
theorem dX9_mayCome_21 : decode cX9_mayCome 21 = .ok (.aload_n 0, 1) := by decide +kernel
theorem dX9_mayCome_22 : decode cX9_mayCome 22 = .ok (.getfield 16, 3) := by decide +kernel
theorem dX9_mayCome_25 : decode cX9_mayCome 25 = .ok (.iload_n 3, 1) := by decide +kernel
theorem dX9_mayCome_26 : decode cX9_mayCome 26 = .ok (.iaload, 1) := by decide +kernel
theorem dX9_mayCome_27 : decode cX9_mayCome 27 = .ok (.isub, 1) := by decide +kernel
theorem dX9_mayCome_28 : decode cX9_mayCome 28 = .ok (.iaload, 1) := by decide +kernel
theorem dX9_mayCome_29 : decode cX9_mayCome 29 = .ok (.ifCond .ne 7, 3) := by decide +kernel
theorem dX9_mayCome_32 : decode cX9_mayCome 32 = .ok (.iconst 1, 1) := by decide +kernel
theorem dX9_mayCome_33 : decode cX9_mayCome 33 = .ok (.goto 4, 3) := by decide +kernel
theorem dX9_mayCome_36 : decode cX9_mayCome 36 = .ok (.iconst 0, 1) := by decide +kernel
theorem dX9_mayCome_37 : decode cX9_mayCome 37 = .ok (.istore_n 2, 1) := by decide +kernel
theorem dX9_mayCome_38 : decode cX9_mayCome 38 = .ok (.iinc 3 1, 3) := by decide +kernel
theorem dX9_mayCome_41 : decode cX9_mayCome 41 = .ok (.goto (-37), 3) := by decide +kernel
theorem dX9_mayCome_44 : decode cX9_mayCome 44 = .ok (.iload_n 2, 1) := by decide +kernel
theorem dX9_mayCome_45 : decode cX9_mayCome 45 = .ok (.ireturn, 1) := by decide +kernel
theorem dX9_extendsTo_0 : decode cX9_extendsTo 0 = .ok (.aload_n 0, 1) := by decide +kernel
theorem dX9_extendsTo_1 : decode cX9_extendsTo 1 = .ok (.iconst 1, 1) := by decide +kernel
theorem dX9_extendsTo_2 : decode cX9_extendsTo 2 = .ok (.iload_n 1, 1) := by decide +kernel
theorem dX9_extendsTo_3 : decode cX9_extendsTo 3 = .ok (.ishl, 1) := by decide +kernel
theorem dX9_extendsTo_4 : decode cX9_extendsTo 4 = .ok (.invokevirtual 86, 3) := by decide +kernel
theorem dX9_extendsTo_7 : decode cX9_extendsTo 7 = .ok (.aload_n 0, 1) := by decide +kernel
theorem dX9_extendsTo_8 : decode cX9_extendsTo 8 = .ok (.iload_n 1, 1) := by decide +kernel
theorem dX9_extendsTo_9 : decode cX9_extendsTo 9 = .ok (.iconst (-1), 1) := by decide +kernel
theorem dX9_extendsTo_10 : decode cX9_extendsTo 10 = .ok (.invokevirtual 70, 3) := by decide +kernel
theorem dX9_extendsTo_13 : decode cX9_extendsTo 13 = .ok (.aload_n 0, 1) := by decide +kernel
theorem dX9_extendsTo_14 : decode cX9_extendsTo 14 = .ok (.getfield 43, 3) := by decide +kernel
theorem dX9_extendsTo_17 : decode cX9_extendsTo 17 = .ok (.ifCond .ne 8, 3) := by decide +kernel
theorem dX9_extendsTo_20 : decode cX9_extendsTo 20 = .ok (.aload_n 0, 1) := by decide +kernel
theorem dX9_extendsTo_21 : decode cX9_extendsTo 21 = .ok (.iconst 0, 1) := by decide +kernel
theorem dX9_extendsTo_22 : decode cX9_extendsTo 22 = .ok (.invokevirtual 57, 3) := by decide +kernel
theorem dX9_extendsTo_25 : decode cX9_extendsTo 25 = .ok (.aload_n 0, 1) := by decide +kernel
theorem dX9_extendsTo_26 : decode cX9_extendsTo 26 = .ok (.getfield 16, 3) := by decide +kernel
theorem dX9_extendsTo_29 : decode cX9_extendsTo 29 = .ok (.aload_n 0, 1) := by decide +kernel
theorem dX9_extendsTo_30 : decode cX9_extendsTo 30 = .ok (.getfield 43, 3) := by decide +kernel
theorem dX9_extendsTo_33 : decode cX9_extendsTo 33 = .ok (.iconst 1, 1) := by decide +kernel
theorem dX9_extendsTo_34 : decode cX9_extendsTo 34 = .ok (.isub, 1) := by decide +kernel
theorem dX9_extendsTo_35 : decode cX9_extendsTo 35 = .ok (.iaload, 1) := by decide +kernel
theorem dX9_extendsTo_36 : decode cX9_extendsTo 36 = .ok (.iconst 1, 1) := by decide +kernel
theorem dX9_extendsTo_37 : decode cX9_extendsTo 37 = .ok (.iadd, 1) := by decide +kernel
theorem dX9_extendsTo_38 : decode cX9_extendsTo 38 = .ok (.istore_n 3, 1) := by decide +kernel
theorem dX9_extendsTo_39 : decode cX9_extendsTo 39 = .ok (.aload_n 0, 1) := by decide +kernel
theorem dX9_extendsTo_40 : decode cX9_extendsTo 40 = .ok (.getfield 43, 3) := by decide +kernel
theorem dX9_extendsTo_43 : decode cX9_extendsTo 43 = .ok (.iload_n 2, 1) := by decide +kernel
theorem dX9_extendsTo_44 : decode cX9_extendsTo 44 = .ok (.if_icmp .ge 62, 3) := by decide +kernel
theorem dX9_extendsTo_47 : decode cX9_extendsTo 47 = .ok (.iload_n 3, 1) := by decide +kernel
theorem dX9_extendsTo_48 : decode cX9_extendsTo 48 = .ok (.sipush 2000, 3) := by decide +kernel
theorem dX9_extendsTo_51 : decode cX9_extendsTo 51 = .ok (.if_icmp .gt 55, 3) := by decide +kernel
theorem dX9_extendsTo_54 : decode cX9_extendsTo 54 = .ok (.aload_n 0, 1) := by decide +kernel
theorem dX9_extendsTo_55 : decode cX9_extendsTo 55 = .ok (.iload_n 3, 1) := by decide +kernel
theorem dX9_extendsTo_56 : decode cX9_extendsTo 56 = .ok (.invokevirtual 143, 3) := by decide +kernel
theorem dX9_extendsTo_59 : decode cX9_extendsTo 59 = .ok (.ifCond .eq 41, 3) := by decide +kernel
theorem dX9_extendsTo_62 : decode cX9_extendsTo 62 = .ok (.iconst 0, 1) := by decide +kernel
theorem dX9_extendsTo_63 : decode cX9_extendsTo 63 = .ok (.istore 4, 2) := by decide +kernel
theorem dX9_extendsTo_65 : decode cX9_extendsTo 65 = .ok (.iload 4, 2) := by decide +kernel
theorem dX9_extendsTo_67 : decode cX9_extendsTo 67 = .ok (.aload_n 0, 1) := by decide +kernel
theorem dX9_extendsTo_68 : decode cX9_extendsTo 68 = .ok (.getfield 43, 3) := by decide +kernel
theorem dX9_extendsTo_71 : decode cX9_extendsTo 71 = .ok (.if_icmp .ge 24, 3) := by decide +kernel
theorem dX9_extendsTo_74 : decode cX9_extendsTo 74 = .ok (.aload_n 0, 1) := by decide +kernel
theorem dX9_extendsTo_75 : decode cX9_extendsTo 75 = .ok (.getfield 19, 3) := by decide +kernel
theorem dX9_extendsTo_78 : decode cX9_extendsTo 78 = .ok (.iload_n 3, 1) := by decide +kernel
theorem dX9_extendsTo_79 : decode cX9_extendsTo 79 = .ok (.aload_n 0, 1) := by decide +kernel
theorem dX9_extendsTo_80 : decode cX9_extendsTo 80 = .ok (.getfield 16, 3) := by decide +kernel
theorem dX9_extendsTo_83 : decode cX9_extendsTo 83 = .ok (.iload 4, 2) := by decide +kernel
theorem dX9_extendsTo_85 : decode cX9_extendsTo 85 = .ok (.iaload, 1) := by decide +kernel
theorem dX9_extendsTo_86 : decode cX9_extendsTo 86 = .ok (.isub, 1) := by decide +kernel
theorem dX9_extendsTo_87 : decode cX9_extendsTo 87 = .ok (.iconst 1, 1) := by decide +kernel
theorem dX9_extendsTo_88 : decode cX9_extendsTo 88 = .ok (.iastore, 1) := by decide +kernel
theorem dX9_extendsTo_89 : decode cX9_extendsTo 89 = .ok (.iinc 4 1, 3) := by decide +kernel
theorem dX9_extendsTo_92 : decode cX9_extendsTo 92 = .ok (.goto (-27), 3) := by decide +kernel
theorem dX9_extendsTo_95 : decode cX9_extendsTo 95 = .ok (.aload_n 0, 1) := by decide +kernel
theorem dX9_extendsTo_96 : decode cX9_extendsTo 96 = .ok (.iload_n 3, 1) := by decide +kernel
theorem dX9_extendsTo_97 : decode cX9_extendsTo 97 = .ok (.invokevirtual 57, 3) := by decide +kernel
theorem dX9_extendsTo_100 : decode cX9_extendsTo 100 = .ok (.iinc 3 1, 3) := by decide +kernel
theorem dX9_extendsTo_103 : decode cX9_extendsTo 103 = .ok (.goto (-64), 3) := by decide +kernel
theorem dX9_extendsTo_106 : decode cX9_extendsTo 106 = .ok (.aload_n 0, 1) := by decide +kernel
theorem dX9_extendsTo_107 : decode cX9_extendsTo 107 = .ok (.getfield 43, 3) := by decide +kernel
theorem dX9_extendsTo_110 : decode cX9_extendsTo 110 = .ok (.iload_n 2, 1) := by decide +kernel
theorem dX9_extendsTo_111 : decode cX9_extendsTo 111 = .ok (.if_icmp .ne 7, 3) := by decide +kernel
theorem dX9_extendsTo_114 : decode cX9_extendsTo 114 = .ok (.iconst 1, 1) := by decide +kernel
theorem dX9_extendsTo_115 : decode cX9_extendsTo 115 = .ok (.goto 4, 3) := by decide +kernel
theorem dX9_extendsTo_118 : decode cX9_extendsTo 118 = .ok (.iconst 0, 1) := by decide +kernel
theorem dX9_extendsTo_119 : decode cX9_extendsTo 119 = .ok (.ireturn, 1) := by decide +kernel
theorem dX9_extend_0 : decode cX9_extend 0 = .ok (.aload_n 0, 1) := by decide +kernel
theorem dX9_extend_1 : decode cX9_extend 1 = .ok (.iload_n 1, 1) := by decide +kernel
theorem dX9_extend_2 : decode cX9_extend 2 = .ok (.invokestatic 61, 3) := by decide +kernel
theorem dX9_extend_5 : decode cX9_extend 5 = .ok (.ifCond .ne 7, 3) := by decide +kernel
theorem dX9_extend_8 : decode cX9_extend 8 = .ok (.iconst 1, 1) := by decide +kernel
theorem dX9_extend_9 : decode cX9_extend 9 = .ok (.goto 50, 3) := by decide +kernel
theorem dX9_extend_12 : decode cX9_extend 12 = .ok (.iload_n 2, 1) := by decide +kernel
theorem dX9_extend_13 : decode cX9_extend 13 = .ok (.iconst 1, 1) := by decide +kernel
theorem dX9_extend_14 : decode cX9_extend 14 = .ok (.bipush 24, 2) := by decide +kernel
theorem dX9_extend_16 : decode cX9_extend 16 = .ok (.invokestatic 32, 3) := by decide +kernel
theorem dX9_extend_19 : decode cX9_extend 19 = .ok (.ifCond .ne 7, 3) := by decide +kernel
theorem dX9_extend_22 : decode cX9_extend 22 = .ok (.iconst 2, 1) := by decide +kernel
theorem dX9_extend_23 : decode cX9_extend 23 = .ok (.goto 36, 3) := by decide +kernel
theorem dX9_extend_26 : decode cX9_extend 26 = .ok (.aload_n 0, 1) := by decide +kernel
theorem dX9_extend_27 : decode cX9_extend 27 = .ok (.iconst 1, 1) := by decide +kernel
theorem dX9_extend_28 : decode cX9_extend 28 = .ok (.iload_n 1, 1) := by decide +kernel
theorem dX9_extend_29 : decode cX9_extend 29 = .ok (.ishl, 1) := by decide +kernel
theorem dX9_extend_30 : decode cX9_extend 30 = .ok (.invokevirtual 89, 3) := by decide +kernel
theorem dX9_extend_33 : decode cX9_extend 33 = .ok (.ifCond .eq 21, 3) := by decide +kernel
theorem dX9_extend_36 : decode cX9_extend 36 = .ok (.aload_n 0, 1) := by decide +kernel
theorem dX9_extend_37 : decode cX9_extend 37 = .ok (.iload_n 1, 1) := by decide +kernel
theorem dX9_extend_38 : decode cX9_extend 38 = .ok (.invokevirtual 46, 3) := by decide +kernel
theorem dX9_extend_41 : decode cX9_extend 41 = .ok (.iload_n 2, 1) := by decide +kernel
theorem dX9_extend_42 : decode cX9_extend 42 = .ok (.if_icmp .gt 12, 3) := by decide +kernel
theorem dX9_extend_45 : decode cX9_extend 45 = .ok (.aload_n 0, 1) := by decide +kernel
theorem dX9_extend_46 : decode cX9_extend 46 = .ok (.iload_n 1, 1) := by decide +kernel
theorem dX9_extend_47 : decode cX9_extend 47 = .ok (.iload_n 2, 1) := by decide +kernel
theorem dX9_extend_48 : decode cX9_extend 48 = .ok (.invokevirtual 146, 3) := by decide +kernel
theorem dX9_extend_51 : decode cX9_extend 51 = .ok (.ifCond .ne 7, 3) := by decide +kernel
theorem dX9_extend_54 : decode cX9_extend 54 = .ok (.iconst 3, 1) := by decide +kernel
theorem dX9_extend_55 : decode cX9_extend 55 = .ok (.goto 4, 3) := by decide +kernel
theorem dX9_extend_58 : decode cX9_extend 58 = .ok (.iconst 0, 1) := by decide +kernel
theorem dX9_extend_59 : decode cX9_extend 59 = .ok (.invokevirtual 39, 3) := by decide +kernel
theorem dX9_extend_62 : decode cX9_extend 62 = .ok (.ifCond .eq 5, 3) := by decide +kernel
theorem dX9_extend_65 : decode cX9_extend 65 = .ok (.iconst 0, 1) := by decide +kernel
theorem dX9_extend_66 : decode cX9_extend 66 = .ok (.ireturn, 1) := by decide +kernel
theorem dX9_extend_67 : decode cX9_extend 67 = .ok (.aload_n 0, 1) := by decide +kernel
theorem dX9_extend_68 : decode cX9_extend 68 = .ok (.invokevirtual 67, 3) := by decide +kernel
theorem dX9_extend_71 : decode cX9_extend 71 = .ok (.aload_n 0, 1) := by decide +kernel
theorem dX9_extend_72 : decode cX9_extend 72 = .ok (.iload_n 1, 1) := by decide +kernel
theorem dX9_extend_73 : decode cX9_extend 73 = .ok (.invokevirtual 74, 3) := by decide +kernel
theorem dX9_extend_76 : decode cX9_extend 76 = .ok (.pop, 1) := by decide +kernel
theorem dX9_extend_77 : decode cX9_extend 77 = .ok (.aload_n 0, 1) := by decide +kernel
theorem dX9_extend_78 : decode cX9_extend 78 = .ok (.iload_n 1, 1) := by decide +kernel
theorem dX9_extend_79 : decode cX9_extend 79 = .ok (.iload_n 2, 1) := by decide +kernel
theorem dX9_extend_80 : decode cX9_extend 80 = .ok (.iconst 1, 1) := by decide +kernel
theorem dX9_extend_81 : decode cX9_extend 81 = .ok (.isub, 1) := by decide +kernel
theorem dX9_extend_82 : decode cX9_extend 82 = .ok (.invokevirtual 50, 3) := by decide +kernel
theorem dX9_extend_85 : decode cX9_extend 85 = .ok (.ireturn, 1) := by decide +kernel
theorem dX9_picksFirst_0 : decode cX9_picksFirst 0 = .ok (.iconst 0, 1) := by decide +kernel
theorem dX9_picksFirst_1 : decode cX9_picksFirst 1 = .ok (.istore_n 3, 1) := by decide +kernel
theorem dX9_picksFirst_2 : decode cX9_picksFirst 2 = .ok (.iload_n 3, 1) := by decide +kernel
theorem dX9_picksFirst_3 : decode cX9_picksFirst 3 = .ok (.iload_n 1, 1) := by decide +kernel
theorem dX9_picksFirst_4 : decode cX9_picksFirst 4 = .ok (.if_icmp .ge 18, 3) := by decide +kernel
theorem dX9_picksFirst_7 : decode cX9_picksFirst 7 = .ok (.aload_n 0, 1) := by decide +kernel
theorem dX9_picksFirst_8 : decode cX9_picksFirst 8 = .ok (.getfield 25, 3) := by decide +kernel
theorem dX9_picksFirst_11 : decode cX9_picksFirst 11 = .ok (.iload_n 3, 1) := by decide +kernel
theorem dX9_picksFirst_12 : decode cX9_picksFirst 12 = .ok (.iload_n 2, 1) := by decide +kernel
theorem dX9_picksFirst_13 : decode cX9_picksFirst 13 = .ok (.iload_n 3, 1) := by decide +kernel
theorem dX9_picksFirst_14 : decode cX9_picksFirst 14 = .ok (.iadd, 1) := by decide +kernel
theorem dX9_picksFirst_15 : decode cX9_picksFirst 15 = .ok (.iastore, 1) := by decide +kernel
theorem dX9_picksFirst_16 : decode cX9_picksFirst 16 = .ok (.iinc 3 1, 3) := by decide +kernel
theorem dX9_picksFirst_19 : decode cX9_picksFirst 19 = .ok (.goto (-17), 3) := by decide +kernel
theorem dX9_picksFirst_22 : decode cX9_picksFirst 22 = .ok (.return_, 1) := by decide +kernel
theorem dX9_picksNext_0 : decode cX9_picksNext 0 = .ok (.iload_n 1, 1) := by decide +kernel
theorem dX9_picksNext_1 : decode cX9_picksNext 1 = .ok (.iconst 1, 1) := by decide +kernel
theorem dX9_picksNext_2 : decode cX9_picksNext 2 = .ok (.isub, 1) := by decide +kernel
theorem dX9_picksNext_3 : decode cX9_picksNext 3 = .ok (.istore_n 3, 1) := by decide +kernel
theorem dX9_picksNext_4 : decode cX9_picksNext 4 = .ok (.iload_n 3, 1) := by decide +kernel
theorem dX9_picksNext_5 : decode cX9_picksNext 5 = .ok (.ifCond .lt 25, 3) := by decide +kernel
theorem dX9_picksNext_8 : decode cX9_picksNext 8 = .ok (.aload_n 0, 1) := by decide +kernel
theorem dX9_picksNext_9 : decode cX9_picksNext 9 = .ok (.getfield 25, 3) := by decide +kernel
theorem dX9_picksNext_12 : decode cX9_picksNext 12 = .ok (.iload_n 3, 1) := by decide +kernel
theorem dX9_picksNext_13 : decode cX9_picksNext 13 = .ok (.iaload, 1) := by decide +kernel
theorem dX9_picksNext_14 : decode cX9_picksNext 14 = .ok (.iload_n 2, 1) := by decide +kernel
theorem dX9_picksNext_15 : decode cX9_picksNext 15 = .ok (.iload_n 1, 1) := by decide +kernel
theorem dX9_picksNext_16 : decode cX9_picksNext 16 = .ok (.iconst 1, 1) := by decide +kernel
theorem dX9_picksNext_17 : decode cX9_picksNext 17 = .ok (.isub, 1) := by decide +kernel
theorem dX9_picksNext_18 : decode cX9_picksNext 18 = .ok (.iload_n 3, 1) := by decide +kernel
theorem dX9_picksNext_19 : decode cX9_picksNext 19 = .ok (.isub, 1) := by decide +kernel
theorem dX9_picksNext_20 : decode cX9_picksNext 20 = .ok (.isub, 1) := by decide +kernel
theorem dX9_picksNext_21 : decode cX9_picksNext 21 = .ok (.if_icmp .ne 9, 3) := by decide +kernel
theorem dX9_picksNext_24 : decode cX9_picksNext 24 = .ok (.iinc 3 (-1), 3) := by decide +kernel
theorem dX9_picksNext_27 : decode cX9_picksNext 27 = .ok (.goto (-23), 3) := by decide +kernel
theorem dX9_picksNext_30 : decode cX9_picksNext 30 = .ok (.iload_n 3, 1) := by decide +kernel
theorem dX9_picksNext_31 : decode cX9_picksNext 31 = .ok (.ifCond .ge 5, 3) := by decide +kernel
theorem dX9_picksNext_34 : decode cX9_picksNext 34 = .ok (.iconst 0, 1) := by decide +kernel
theorem dX9_picksNext_35 : decode cX9_picksNext 35 = .ok (.ireturn, 1) := by decide +kernel
theorem dX9_picksNext_36 : decode cX9_picksNext 36 = .ok (.aload_n 0, 1) := by decide +kernel
theorem dX9_picksNext_37 : decode cX9_picksNext 37 = .ok (.getfield 25, 3) := by decide +kernel
theorem dX9_picksNext_40 : decode cX9_picksNext 40 = .ok (.iload_n 3, 1) := by decide +kernel
theorem dX9_picksNext_41 : decode cX9_picksNext 41 = .ok (.dup2, 1) := by decide +kernel
theorem dX9_picksNext_42 : decode cX9_picksNext 42 = .ok (.iaload, 1) := by decide +kernel
theorem dX9_picksNext_43 : decode cX9_picksNext 43 = .ok (.iconst 1, 1) := by decide +kernel
theorem dX9_picksNext_44 : decode cX9_picksNext 44 = .ok (.iadd, 1) := by decide +kernel
theorem dX9_picksNext_45 : decode cX9_picksNext 45 = .ok (.iastore, 1) := by decide +kernel
theorem dX9_picksNext_46 : decode cX9_picksNext 46 = .ok (.iload_n 3, 1) := by decide +kernel
theorem dX9_picksNext_47 : decode cX9_picksNext 47 = .ok (.iconst 1, 1) := by decide +kernel
theorem dX9_picksNext_48 : decode cX9_picksNext 48 = .ok (.iadd, 1) := by decide +kernel
theorem dX9_picksNext_49 : decode cX9_picksNext 49 = .ok (.istore 4, 2) := by decide +kernel
theorem dX9_picksNext_51 : decode cX9_picksNext 51 = .ok (.iload 4, 2) := by decide +kernel
theorem dX9_picksNext_53 : decode cX9_picksNext 53 = .ok (.iload_n 1, 1) := by decide +kernel
theorem dX9_picksNext_54 : decode cX9_picksNext 54 = .ok (.if_icmp .ge 27, 3) := by decide +kernel
theorem dX9_picksNext_57 : decode cX9_picksNext 57 = .ok (.aload_n 0, 1) := by decide +kernel
theorem dX9_picksNext_58 : decode cX9_picksNext 58 = .ok (.getfield 25, 3) := by decide +kernel
theorem dX9_picksNext_61 : decode cX9_picksNext 61 = .ok (.iload 4, 2) := by decide +kernel
theorem dX9_picksNext_63 : decode cX9_picksNext 63 = .ok (.aload_n 0, 1) := by decide +kernel
theorem dX9_picksNext_64 : decode cX9_picksNext 64 = .ok (.getfield 25, 3) := by decide +kernel
theorem dX9_picksNext_67 : decode cX9_picksNext 67 = .ok (.iload 4, 2) := by decide +kernel
theorem dX9_picksNext_69 : decode cX9_picksNext 69 = .ok (.iconst 1, 1) := by decide +kernel
theorem dX9_picksNext_70 : decode cX9_picksNext 70 = .ok (.isub, 1) := by decide +kernel
theorem dX9_picksNext_71 : decode cX9_picksNext 71 = .ok (.iaload, 1) := by decide +kernel
theorem dX9_picksNext_72 : decode cX9_picksNext 72 = .ok (.iconst 1, 1) := by decide +kernel
theorem dX9_picksNext_73 : decode cX9_picksNext 73 = .ok (.iadd, 1) := by decide +kernel
theorem dX9_picksNext_74 : decode cX9_picksNext 74 = .ok (.iastore, 1) := by decide +kernel
theorem dX9_picksNext_75 : decode cX9_picksNext 75 = .ok (.iinc 4 1, 3) := by decide +kernel
theorem dX9_picksNext_78 : decode cX9_picksNext 78 = .ok (.goto (-27), 3) := by decide +kernel
theorem dX9_picksNext_81 : decode cX9_picksNext 81 = .ok (.iconst 1, 1) := by decide +kernel
theorem dX9_picksNext_82 : decode cX9_picksNext 82 = .ok (.ireturn, 1) := by decide +kernel
theorem dX9_makes_0 : decode cX9_makes 0 = .ok (.aload_n 0, 1) := by decide +kernel
theorem dX9_makes_1 : decode cX9_makes 1 = .ok (.invokevirtual 54, 3) := by decide +kernel
theorem dX9_makes_4 : decode cX9_makes 4 = .ok (.aload_n 0, 1) := by decide +kernel
theorem dX9_makes_5 : decode cX9_makes 5 = .ok (.iconst 0, 1) := by decide +kernel
theorem dX9_makes_6 : decode cX9_makes 6 = .ok (.invokevirtual 57, 3) := by decide +kernel
theorem dX9_makes_9 : decode cX9_makes 9 = .ok (.iconst 0, 1) := by decide +kernel
theorem dX9_makes_10 : decode cX9_makes 10 = .ok (.istore_n 2, 1) := by decide +kernel
theorem dX9_makes_11 : decode cX9_makes 11 = .ok (.iload_n 2, 1) := by decide +kernel
theorem dX9_makes_12 : decode cX9_makes 12 = .ok (.iload_n 1, 1) := by decide +kernel
theorem dX9_makes_13 : decode cX9_makes 13 = .ok (.if_icmp .ge 19, 3) := by decide +kernel
theorem dX9_makes_16 : decode cX9_makes 16 = .ok (.aload_n 0, 1) := by decide +kernel
theorem dX9_makes_17 : decode cX9_makes 17 = .ok (.aload_n 0, 1) := by decide +kernel
theorem dX9_makes_18 : decode cX9_makes 18 = .ok (.getfield 25, 3) := by decide +kernel
theorem dX9_makes_21 : decode cX9_makes 21 = .ok (.iload_n 2, 1) := by decide +kernel
theorem dX9_makes_22 : decode cX9_makes 22 = .ok (.iaload, 1) := by decide +kernel
theorem dX9_makes_23 : decode cX9_makes 23 = .ok (.invokevirtual 57, 3) := by decide +kernel
theorem dX9_makes_26 : decode cX9_makes 26 = .ok (.iinc 2 1, 3) := by decide +kernel
theorem dX9_makes_29 : decode cX9_makes 29 = .ok (.goto (-18), 3) := by decide +kernel
theorem dX9_makes_32 : decode cX9_makes 32 = .ok (.return_, 1) := by decide +kernel
theorem dX9_clash_0 : decode cX9_clash 0 = .ok (.lconst 0, 1) := by decide +kernel
theorem dX9_clash_1 : decode cX9_clash 1 = .ok (.lstore_n 2, 1) := by decide +kernel
theorem dX9_clash_2 : decode cX9_clash 2 = .ok (.iconst 0, 1) := by decide +kernel
theorem dX9_clash_3 : decode cX9_clash 3 = .ok (.istore 4, 2) := by decide +kernel
theorem dX9_clash_5 : decode cX9_clash 5 = .ok (.iload 4, 2) := by decide +kernel
theorem dX9_clash_7 : decode cX9_clash 7 = .ok (.iload_n 1, 1) := by decide +kernel
theorem dX9_clash_8 : decode cX9_clash 8 = .ok (.if_icmp .ge 70, 3) := by decide +kernel
theorem dX9_clash_11 : decode cX9_clash 11 = .ok (.iconst (-1), 1) := by decide +kernel
theorem dX9_clash_12 : decode cX9_clash 12 = .ok (.istore 5, 2) := by decide +kernel
theorem dX9_clash_14 : decode cX9_clash 14 = .ok (.iload 5, 2) := by decide +kernel
theorem dX9_clash_16 : decode cX9_clash 16 = .ok (.iload 4, 2) := by decide +kernel
theorem dX9_clash_18 : decode cX9_clash 18 = .ok (.if_icmp .ge 54, 3) := by decide +kernel
theorem dX9_clash_21 : decode cX9_clash 21 = .ok (.lconst 1, 1) := by decide +kernel
theorem dX9_clash_22 : decode cX9_clash 22 = .ok (.aload_n 0, 1) := by decide +kernel
theorem dX9_clash_23 : decode cX9_clash 23 = .ok (.getfield 25, 3) := by decide +kernel
theorem dX9_clash_26 : decode cX9_clash 26 = .ok (.iload 4, 2) := by decide +kernel
theorem dX9_clash_28 : decode cX9_clash 28 = .ok (.iaload, 1) := by decide +kernel
theorem dX9_clash_29 : decode cX9_clash 29 = .ok (.iload 5, 2) := by decide +kernel
theorem dX9_clash_31 : decode cX9_clash 31 = .ok (.ifCond .ge 7, 3) := by decide +kernel
theorem dX9_clash_34 : decode cX9_clash 34 = .ok (.iconst 0, 1) := by decide +kernel
theorem dX9_clash_35 : decode cX9_clash 35 = .ok (.goto 10, 3) := by decide +kernel
theorem dX9_clash_38 : decode cX9_clash 38 = .ok (.aload_n 0, 1) := by decide +kernel
theorem dX9_clash_39 : decode cX9_clash 39 = .ok (.getfield 25, 3) := by decide +kernel
theorem dX9_clash_42 : decode cX9_clash 42 = .ok (.iload 5, 2) := by decide +kernel
theorem dX9_clash_44 : decode cX9_clash 44 = .ok (.iaload, 1) := by decide +kernel
theorem dX9_clash_45 : decode cX9_clash 45 = .ok (.isub, 1) := by decide +kernel
theorem dX9_clash_46 : decode cX9_clash 46 = .ok (.lshl, 1) := by decide +kernel
theorem dX9_clash_47 : decode cX9_clash 47 = .ok (.lstore 6, 2) := by decide +kernel
theorem dX9_clash_49 : decode cX9_clash 49 = .ok (.lload_n 2, 1) := by decide +kernel
theorem dX9_clash_50 : decode cX9_clash 50 = .ok (.lload 6, 2) := by decide +kernel
theorem dX9_clash_52 : decode cX9_clash 52 = .ok (.land, 1) := by decide +kernel
theorem dX9_clash_53 : decode cX9_clash 53 = .ok (.lconst 0, 1) := by decide +kernel
theorem dX9_clash_54 : decode cX9_clash 54 = .ok (.lcmp, 1) := by decide +kernel
theorem dX9_clash_55 : decode cX9_clash 55 = .ok (.ifCond .eq 6, 3) := by decide +kernel
theorem dX9_clash_58 : decode cX9_clash 58 = .ok (.iload 4, 2) := by decide +kernel
theorem dX9_clash_60 : decode cX9_clash 60 = .ok (.ireturn, 1) := by decide +kernel
theorem dX9_clash_61 : decode cX9_clash 61 = .ok (.lload_n 2, 1) := by decide +kernel
theorem dX9_clash_62 : decode cX9_clash 62 = .ok (.lload 6, 2) := by decide +kernel
theorem dX9_clash_64 : decode cX9_clash 64 = .ok (.lor, 1) := by decide +kernel
theorem dX9_clash_65 : decode cX9_clash 65 = .ok (.lstore_n 2, 1) := by decide +kernel
theorem dX9_clash_66 : decode cX9_clash 66 = .ok (.iinc 5 1, 3) := by decide +kernel
theorem dX9_clash_69 : decode cX9_clash 69 = .ok (.goto (-55), 3) := by decide +kernel
theorem dX9_clash_72 : decode cX9_clash 72 = .ok (.iinc 4 1, 3) := by decide +kernel
theorem dX9_clash_75 : decode cX9_clash 75 = .ok (.goto (-70), 3) := by decide +kernel
theorem dX9_clash_78 : decode cX9_clash 78 = .ok (.iconst (-1), 1) := by decide +kernel
theorem dX9_clash_79 : decode cX9_clash 79 = .ok (.ireturn, 1) := by decide +kernel
theorem dX9_optimal_0 : decode cX9_optimal 0 = .ok (.aload_n 0, 1) := by decide +kernel
theorem dX9_optimal_1 : decode cX9_optimal 1 = .ok (.iload_n 2, 1) := by decide +kernel
theorem dX9_optimal_2 : decode cX9_optimal 2 = .ok (.invokestatic 61, 3) := by decide +kernel
theorem dX9_optimal_5 : decode cX9_optimal 5 = .ok (.ifCond .ne 7, 3) := by decide +kernel
theorem dX9_optimal_8 : decode cX9_optimal 8 = .ok (.iconst 1, 1) := by decide +kernel
theorem dX9_optimal_9 : decode cX9_optimal 9 = .ok (.goto 18, 3) := by decide +kernel
theorem dX9_optimal_12 : decode cX9_optimal 12 = .ok (.iload_n 1, 1) := by decide +kernel
theorem dX9_optimal_13 : decode cX9_optimal 13 = .ok (.iconst 1, 1) := by decide +kernel
theorem dX9_optimal_14 : decode cX9_optimal 14 = .ok (.bipush 7, 2) := by decide +kernel
theorem dX9_optimal_16 : decode cX9_optimal 16 = .ok (.invokestatic 32, 3) := by decide +kernel
theorem dX9_optimal_19 : decode cX9_optimal 19 = .ok (.ifCond .eq 7, 3) := by decide +kernel
theorem dX9_optimal_22 : decode cX9_optimal 22 = .ok (.iconst 0, 1) := by decide +kernel
theorem dX9_optimal_23 : decode cX9_optimal 23 = .ok (.goto 4, 3) := by decide +kernel
theorem dX9_optimal_26 : decode cX9_optimal 26 = .ok (.iconst 2, 1) := by decide +kernel
theorem dX9_optimal_27 : decode cX9_optimal 27 = .ok (.invokevirtual 39, 3) := by decide +kernel
theorem dX9_optimal_30 : decode cX9_optimal 30 = .ok (.ifCond .eq 5, 3) := by decide +kernel
theorem dX9_optimal_33 : decode cX9_optimal 33 = .ok (.iconst 0, 1) := by decide +kernel
theorem dX9_optimal_34 : decode cX9_optimal 34 = .ok (.ireturn, 1) := by decide +kernel
theorem dX9_optimal_35 : decode cX9_optimal 35 = .ok (.aload_n 0, 1) := by decide +kernel
theorem dX9_optimal_36 : decode cX9_optimal 36 = .ok (.invokevirtual 67, 3) := by decide +kernel
theorem dX9_optimal_39 : decode cX9_optimal 39 = .ok (.iload_n 1, 1) := by decide +kernel
theorem dX9_optimal_40 : decode cX9_optimal 40 = .ok (.iload_n 1, 1) := by decide +kernel
theorem dX9_optimal_41 : decode cX9_optimal 41 = .ok (.iconst 1, 1) := by decide +kernel
theorem dX9_optimal_42 : decode cX9_optimal 42 = .ok (.isub, 1) := by decide +kernel
theorem dX9_optimal_43 : decode cX9_optimal 43 = .ok (.imul, 1) := by decide +kernel
theorem dX9_optimal_44 : decode cX9_optimal 44 = .ok (.iconst 2, 1) := by decide +kernel
theorem dX9_optimal_45 : decode cX9_optimal 45 = .ok (.idiv, 1) := by decide +kernel
theorem dX9_optimal_46 : decode cX9_optimal 46 = .ok (.istore_n 3, 1) := by decide +kernel
theorem dX9_optimal_47 : decode cX9_optimal 47 = .ok (.iload_n 1, 1) := by decide +kernel
theorem dX9_optimal_48 : decode cX9_optimal 48 = .ok (.iconst 1, 1) := by decide +kernel
theorem dX9_optimal_49 : decode cX9_optimal 49 = .ok (.if_icmp .ne 7, 3) := by decide +kernel
theorem dX9_optimal_52 : decode cX9_optimal 52 = .ok (.iconst 1, 1) := by decide +kernel
theorem dX9_optimal_53 : decode cX9_optimal 53 = .ok (.goto 4, 3) := by decide +kernel
theorem dX9_optimal_56 : decode cX9_optimal 56 = .ok (.iconst 0, 1) := by decide +kernel
theorem dX9_optimal_57 : decode cX9_optimal 57 = .ok (.istore 4, 2) := by decide +kernel
theorem dX9_optimal_59 : decode cX9_optimal 59 = .ok (.aload_n 0, 1) := by decide +kernel
theorem dX9_optimal_60 : decode cX9_optimal 60 = .ok (.iload_n 1, 1) := by decide +kernel
theorem dX9_optimal_61 : decode cX9_optimal 61 = .ok (.iconst 1, 1) := by decide +kernel
theorem dX9_optimal_62 : decode cX9_optimal 62 = .ok (.isub, 1) := by decide +kernel
theorem dX9_optimal_63 : decode cX9_optimal 63 = .ok (.iconst 1, 1) := by decide +kernel
theorem dX9_optimal_64 : decode cX9_optimal 64 = .ok (.invokevirtual 149, 3) := by decide +kernel
theorem dX9_optimal_67 : decode cX9_optimal 67 = .ok (.iload 4, 2) := by decide +kernel
theorem dX9_optimal_69 : decode cX9_optimal 69 = .ok (.ifCond .ne 63, 3) := by decide +kernel
theorem dX9_optimal_72 : decode cX9_optimal 72 = .ok (.aload_n 0, 1) := by decide +kernel
theorem dX9_optimal_73 : decode cX9_optimal 73 = .ok (.getfield 25, 3) := by decide +kernel
theorem dX9_optimal_76 : decode cX9_optimal 76 = .ok (.iload_n 1, 1) := by decide +kernel
theorem dX9_optimal_77 : decode cX9_optimal 77 = .ok (.iconst 2, 1) := by decide +kernel
theorem dX9_optimal_78 : decode cX9_optimal 78 = .ok (.isub, 1) := by decide +kernel
theorem dX9_optimal_79 : decode cX9_optimal 79 = .ok (.iaload, 1) := by decide +kernel
theorem dX9_optimal_80 : decode cX9_optimal 80 = .ok (.iload_n 3, 1) := by decide +kernel
theorem dX9_optimal_81 : decode cX9_optimal 81 = .ok (.if_icmp .ne 18, 3) := by decide +kernel
theorem dX9_optimal_84 : decode cX9_optimal 84 = .ok (.aload_n 0, 1) := by decide +kernel
theorem dX9_optimal_85 : decode cX9_optimal 85 = .ok (.iload_n 1, 1) := by decide +kernel
theorem dX9_optimal_86 : decode cX9_optimal 86 = .ok (.iconst 1, 1) := by decide +kernel
theorem dX9_optimal_87 : decode cX9_optimal 87 = .ok (.isub, 1) := by decide +kernel
theorem dX9_optimal_88 : decode cX9_optimal 88 = .ok (.invokevirtual 152, 3) := by decide +kernel
theorem dX9_optimal_91 : decode cX9_optimal 91 = .ok (.iconst (-1), 1) := by decide +kernel
theorem dX9_optimal_92 : decode cX9_optimal 92 = .ok (.if_icmp .ne 7, 3) := by decide +kernel
theorem dX9_optimal_95 : decode cX9_optimal 95 = .ok (.iconst 1, 1) := by decide +kernel
theorem dX9_optimal_96 : decode cX9_optimal 96 = .ok (.goto 4, 3) := by decide +kernel
theorem dX9_optimal_99 : decode cX9_optimal 99 = .ok (.iconst 0, 1) := by decide +kernel
theorem dX9_optimal_100 : decode cX9_optimal 100 = .ok (.istore 4, 2) := by decide +kernel
theorem dX9_optimal_102 : decode cX9_optimal 102 = .ok (.iload 4, 2) := by decide +kernel
theorem dX9_optimal_104 : decode cX9_optimal 104 = .ok (.ifCond .ne (-37), 3) := by decide +kernel
theorem dX9_optimal_107 : decode cX9_optimal 107 = .ok (.aload_n 0, 1) := by decide +kernel
theorem dX9_optimal_108 : decode cX9_optimal 108 = .ok (.iload_n 1, 1) := by decide +kernel
theorem dX9_optimal_109 : decode cX9_optimal 109 = .ok (.iconst 1, 1) := by decide +kernel
theorem dX9_optimal_110 : decode cX9_optimal 110 = .ok (.isub, 1) := by decide +kernel
theorem dX9_optimal_111 : decode cX9_optimal 111 = .ok (.iload_n 3, 1) := by decide +kernel
theorem dX9_optimal_112 : decode cX9_optimal 112 = .ok (.invokevirtual 155, 3) := by decide +kernel
theorem dX9_optimal_115 : decode cX9_optimal 115 = .ok (.ifCond .ne (-48), 3) := by decide +kernel
theorem dX9_optimal_118 : decode cX9_optimal 118 = .ok (.iinc 3 1, 3) := by decide +kernel
theorem dX9_optimal_121 : decode cX9_optimal 121 = .ok (.aload_n 0, 1) := by decide +kernel
theorem dX9_optimal_122 : decode cX9_optimal 122 = .ok (.iload_n 1, 1) := by decide +kernel
theorem dX9_optimal_123 : decode cX9_optimal 123 = .ok (.iconst 1, 1) := by decide +kernel
theorem dX9_optimal_124 : decode cX9_optimal 124 = .ok (.isub, 1) := by decide +kernel
theorem dX9_optimal_125 : decode cX9_optimal 125 = .ok (.iconst 1, 1) := by decide +kernel
theorem dX9_optimal_126 : decode cX9_optimal 126 = .ok (.invokevirtual 149, 3) := by decide +kernel
theorem dX9_optimal_129 : decode cX9_optimal 129 = .ok (.goto (-62), 3) := by decide +kernel
theorem dX9_optimal_132 : decode cX9_optimal 132 = .ok (.aload_n 0, 1) := by decide +kernel
theorem dX9_optimal_133 : decode cX9_optimal 133 = .ok (.iload_n 1, 1) := by decide +kernel
theorem dX9_optimal_134 : decode cX9_optimal 134 = .ok (.iconst 1, 1) := by decide +kernel
theorem dX9_optimal_135 : decode cX9_optimal 135 = .ok (.isub, 1) := by decide +kernel
theorem dX9_optimal_136 : decode cX9_optimal 136 = .ok (.invokevirtual 158, 3) := by decide +kernel
theorem dX9_optimal_139 : decode cX9_optimal 139 = .ok (.aload_n 0, 1) := by decide +kernel
theorem dX9_optimal_140 : decode cX9_optimal 140 = .ok (.iload_n 2, 1) := by decide +kernel
theorem dX9_optimal_141 : decode cX9_optimal 141 = .ok (.invokevirtual 74, 3) := by decide +kernel
theorem dX9_optimal_144 : decode cX9_optimal 144 = .ok (.pop, 1) := by decide +kernel
theorem dX9_optimal_145 : decode cX9_optimal 145 = .ok (.aload_n 0, 1) := by decide +kernel
theorem dX9_optimal_146 : decode cX9_optimal 146 = .ok (.iload_n 2, 1) := by decide +kernel
theorem dX9_optimal_147 : decode cX9_optimal 147 = .ok (.invokevirtual 77, 3) := by decide +kernel
theorem dX9_optimal_150 : decode cX9_optimal 150 = .ok (.ireturn, 1) := by decide +kernel
theorem dX9_skips_0 : decode cX9_skips 0 = .ok (.aload_n 0, 1) := by decide +kernel
theorem dX9_skips_1 : decode cX9_skips 1 = .ok (.iload_n 1, 1) := by decide +kernel
theorem dX9_skips_2 : decode cX9_skips 2 = .ok (.invokevirtual 152, 3) := by decide +kernel
theorem dX9_skips_5 : decode cX9_skips 5 = .ok (.istore_n 3, 1) := by decide +kernel
theorem dX9_skips_6 : decode cX9_skips 6 = .ok (.iload_n 3, 1) := by decide +kernel
theorem dX9_skips_7 : decode cX9_skips 7 = .ok (.iconst 1, 1) := by decide +kernel
theorem dX9_skips_8 : decode cX9_skips 8 = .ok (.iadd, 1) := by decide +kernel
theorem dX9_skips_9 : decode cX9_skips 9 = .ok (.istore 4, 2) := by decide +kernel
theorem dX9_skips_11 : decode cX9_skips 11 = .ok (.iload 4, 2) := by decide +kernel
theorem dX9_skips_13 : decode cX9_skips 13 = .ok (.iload_n 1, 1) := by decide +kernel
theorem dX9_skips_14 : decode cX9_skips 14 = .ok (.if_icmp .ge 29, 3) := by decide +kernel
theorem dX9_skips_17 : decode cX9_skips 17 = .ok (.iload_n 3, 1) := by decide +kernel
theorem dX9_skips_18 : decode cX9_skips 18 = .ok (.iconst (-1), 1) := by decide +kernel
theorem dX9_skips_19 : decode cX9_skips 19 = .ok (.if_icmp .eq 24, 3) := by decide +kernel
theorem dX9_skips_22 : decode cX9_skips 22 = .ok (.aload_n 0, 1) := by decide +kernel
theorem dX9_skips_23 : decode cX9_skips 23 = .ok (.getfield 25, 3) := by decide +kernel
theorem dX9_skips_26 : decode cX9_skips 26 = .ok (.iload 4, 2) := by decide +kernel
theorem dX9_skips_28 : decode cX9_skips 28 = .ok (.iload_n 2, 1) := by decide +kernel
theorem dX9_skips_29 : decode cX9_skips 29 = .ok (.iload_n 1, 1) := by decide +kernel
theorem dX9_skips_30 : decode cX9_skips 30 = .ok (.iconst 1, 1) := by decide +kernel
theorem dX9_skips_31 : decode cX9_skips 31 = .ok (.isub, 1) := by decide +kernel
theorem dX9_skips_32 : decode cX9_skips 32 = .ok (.iload 4, 2) := by decide +kernel
theorem dX9_skips_34 : decode cX9_skips 34 = .ok (.isub, 1) := by decide +kernel
theorem dX9_skips_35 : decode cX9_skips 35 = .ok (.isub, 1) := by decide +kernel
theorem dX9_skips_36 : decode cX9_skips 36 = .ok (.iastore, 1) := by decide +kernel
theorem dX9_skips_37 : decode cX9_skips 37 = .ok (.iinc 4 1, 3) := by decide +kernel
theorem dX9_skips_40 : decode cX9_skips 40 = .ok (.goto (-29), 3) := by decide +kernel
theorem dX9_skips_43 : decode cX9_skips 43 = .ok (.aload_n 0, 1) := by decide +kernel
theorem dX9_skips_44 : decode cX9_skips 44 = .ok (.iload_n 1, 1) := by decide +kernel
theorem dX9_skips_45 : decode cX9_skips 45 = .ok (.iload_n 2, 1) := by decide +kernel
theorem dX9_skips_46 : decode cX9_skips 46 = .ok (.invokevirtual 161, 3) := by decide +kernel
theorem dX9_skips_49 : decode cX9_skips 49 = .ok (.ireturn, 1) := by decide +kernel
theorem dX9_isComplete_0 : decode cX9_isComplete 0 = .ok (.iconst 1, 1) := by decide +kernel
theorem dX9_isComplete_1 : decode cX9_isComplete 1 = .ok (.istore_n 2, 1) := by decide +kernel
theorem dX9_isComplete_2 : decode cX9_isComplete 2 = .ok (.iconst 1, 1) := by decide +kernel
theorem dX9_isComplete_3 : decode cX9_isComplete 3 = .ok (.istore_n 3, 1) := by decide +kernel
theorem dX9_isComplete_4 : decode cX9_isComplete 4 = .ok (.iload_n 3, 1) := by decide +kernel
theorem dX9_isComplete_5 : decode cX9_isComplete 5 = .ok (.iload_n 1, 1) := by decide +kernel
theorem dX9_isComplete_6 : decode cX9_isComplete 6 = .ok (.if_icmp .gt 27, 3) := by decide +kernel
theorem dX9_isComplete_9 : decode cX9_isComplete 9 = .ok (.iload_n 2, 1) := by decide +kernel
theorem dX9_isComplete_10 : decode cX9_isComplete 10 = .ok (.ifCond .eq 23, 3) := by decide +kernel
theorem dX9_isComplete_13 : decode cX9_isComplete 13 = .ok (.iload_n 0, 1) := by decide +kernel
theorem dX9_isComplete_14 : decode cX9_isComplete 14 = .ok (.iload_n 0, 1) := by decide +kernel
theorem dX9_isComplete_15 : decode cX9_isComplete 15 = .ok (.iload_n 3, 1) := by decide +kernel
theorem dX9_isComplete_16 : decode cX9_isComplete 16 = .ok (.ishr, 1) := by decide +kernel
theorem dX9_isComplete_17 : decode cX9_isComplete 17 = .ok (.iand, 1) := by decide +kernel
theorem dX9_isComplete_18 : decode cX9_isComplete 18 = .ok (.ifCond .eq 7, 3) := by decide +kernel
theorem dX9_isComplete_21 : decode cX9_isComplete 21 = .ok (.iconst 1, 1) := by decide +kernel
theorem dX9_isComplete_22 : decode cX9_isComplete 22 = .ok (.goto 4, 3) := by decide +kernel
theorem dX9_isComplete_25 : decode cX9_isComplete 25 = .ok (.iconst 0, 1) := by decide +kernel
theorem dX9_isComplete_26 : decode cX9_isComplete 26 = .ok (.istore_n 2, 1) := by decide +kernel
theorem dX9_isComplete_27 : decode cX9_isComplete 27 = .ok (.iinc 3 1, 3) := by decide +kernel
theorem dX9_isComplete_30 : decode cX9_isComplete 30 = .ok (.goto (-26), 3) := by decide +kernel
theorem dX9_isComplete_33 : decode cX9_isComplete 33 = .ok (.iload_n 2, 1) := by decide +kernel
theorem dX9_isComplete_34 : decode cX9_isComplete 34 = .ok (.ireturn, 1) := by decide +kernel
theorem dX9_sparse_0 : decode cX9_sparse 0 = .ok (.aload_n 0, 1) := by decide +kernel
theorem dX9_sparse_1 : decode cX9_sparse 1 = .ok (.iload_n 2, 1) := by decide +kernel
theorem dX9_sparse_2 : decode cX9_sparse 2 = .ok (.invokestatic 61, 3) := by decide +kernel
theorem dX9_sparse_5 : decode cX9_sparse 5 = .ok (.ifCond .ne 7, 3) := by decide +kernel
theorem dX9_sparse_8 : decode cX9_sparse 8 = .ok (.iconst 1, 1) := by decide +kernel
theorem dX9_sparse_9 : decode cX9_sparse 9 = .ok (.goto 18, 3) := by decide +kernel
theorem dX9_sparse_12 : decode cX9_sparse 12 = .ok (.iload_n 1, 1) := by decide +kernel
theorem dX9_sparse_13 : decode cX9_sparse 13 = .ok (.iconst 1, 1) := by decide +kernel
theorem dX9_sparse_14 : decode cX9_sparse 14 = .ok (.bipush 20, 2) := by decide +kernel
theorem dX9_sparse_16 : decode cX9_sparse 16 = .ok (.invokestatic 32, 3) := by decide +kernel
theorem dX9_sparse_19 : decode cX9_sparse 19 = .ok (.ifCond .eq 7, 3) := by decide +kernel
theorem dX9_sparse_22 : decode cX9_sparse 22 = .ok (.iconst 0, 1) := by decide +kernel
theorem dX9_sparse_23 : decode cX9_sparse 23 = .ok (.goto 4, 3) := by decide +kernel
theorem dX9_sparse_26 : decode cX9_sparse 26 = .ok (.iconst 2, 1) := by decide +kernel
theorem dX9_sparse_27 : decode cX9_sparse 27 = .ok (.invokevirtual 39, 3) := by decide +kernel
theorem dX9_sparse_30 : decode cX9_sparse 30 = .ok (.ifCond .eq 5, 3) := by decide +kernel
theorem dX9_sparse_33 : decode cX9_sparse 33 = .ok (.iconst 0, 1) := by decide +kernel
theorem dX9_sparse_34 : decode cX9_sparse 34 = .ok (.ireturn, 1) := by decide +kernel
theorem dX9_sparse_35 : decode cX9_sparse 35 = .ok (.aload_n 0, 1) := by decide +kernel
theorem dX9_sparse_36 : decode cX9_sparse 36 = .ok (.invokevirtual 67, 3) := by decide +kernel
theorem dX9_sparse_39 : decode cX9_sparse 39 = .ok (.iconst 0, 1) := by decide +kernel
theorem dX9_sparse_40 : decode cX9_sparse 40 = .ok (.istore_n 3, 1) := by decide +kernel
theorem dX9_sparse_41 : decode cX9_sparse 41 = .ok (.iconst 0, 1) := by decide +kernel
theorem dX9_sparse_42 : decode cX9_sparse 42 = .ok (.istore 4, 2) := by decide +kernel
theorem dX9_sparse_44 : decode cX9_sparse 44 = .ok (.aload_n 0, 1) := by decide +kernel
theorem dX9_sparse_45 : decode cX9_sparse 45 = .ok (.iconst 0, 1) := by decide +kernel
theorem dX9_sparse_46 : decode cX9_sparse 46 = .ok (.iconst 1, 1) := by decide +kernel
theorem dX9_sparse_47 : decode cX9_sparse 47 = .ok (.invokevirtual 149, 3) := by decide +kernel
theorem dX9_sparse_50 : decode cX9_sparse 50 = .ok (.iload 4, 2) := by decide +kernel
theorem dX9_sparse_52 : decode cX9_sparse 52 = .ok (.ifCond .ne 75, 3) := by decide +kernel
theorem dX9_sparse_55 : decode cX9_sparse 55 = .ok (.iconst 1, 1) := by decide +kernel
theorem dX9_sparse_56 : decode cX9_sparse 56 = .ok (.iconst 1, 1) := by decide +kernel
theorem dX9_sparse_57 : decode cX9_sparse 57 = .ok (.iload_n 1, 1) := by decide +kernel
theorem dX9_sparse_58 : decode cX9_sparse 58 = .ok (.ishl, 1) := by decide +kernel
theorem dX9_sparse_59 : decode cX9_sparse 59 = .ok (.ior, 1) := by decide +kernel
theorem dX9_sparse_60 : decode cX9_sparse 60 = .ok (.istore 5, 2) := by decide +kernel
theorem dX9_sparse_62 : decode cX9_sparse 62 = .ok (.iconst 0, 1) := by decide +kernel
theorem dX9_sparse_63 : decode cX9_sparse 63 = .ok (.istore 6, 2) := by decide +kernel
theorem dX9_sparse_65 : decode cX9_sparse 65 = .ok (.iload 6, 2) := by decide +kernel
theorem dX9_sparse_67 : decode cX9_sparse 67 = .ok (.iload_n 3, 1) := by decide +kernel
theorem dX9_sparse_68 : decode cX9_sparse 68 = .ok (.if_icmp .ge 23, 3) := by decide +kernel
theorem dX9_sparse_71 : decode cX9_sparse 71 = .ok (.iload 5, 2) := by decide +kernel
theorem dX9_sparse_73 : decode cX9_sparse 73 = .ok (.iconst 1, 1) := by decide +kernel
theorem dX9_sparse_74 : decode cX9_sparse 74 = .ok (.aload_n 0, 1) := by decide +kernel
theorem dX9_sparse_75 : decode cX9_sparse 75 = .ok (.getfield 25, 3) := by decide +kernel
theorem dX9_sparse_78 : decode cX9_sparse 78 = .ok (.iload 6, 2) := by decide +kernel
theorem dX9_sparse_80 : decode cX9_sparse 80 = .ok (.iaload, 1) := by decide +kernel
theorem dX9_sparse_81 : decode cX9_sparse 81 = .ok (.ishl, 1) := by decide +kernel
theorem dX9_sparse_82 : decode cX9_sparse 82 = .ok (.ior, 1) := by decide +kernel
theorem dX9_sparse_83 : decode cX9_sparse 83 = .ok (.istore 5, 2) := by decide +kernel
theorem dX9_sparse_85 : decode cX9_sparse 85 = .ok (.iinc 6 1, 3) := by decide +kernel
theorem dX9_sparse_88 : decode cX9_sparse 88 = .ok (.goto (-23), 3) := by decide +kernel
theorem dX9_sparse_91 : decode cX9_sparse 91 = .ok (.iload 5, 2) := by decide +kernel
theorem dX9_sparse_93 : decode cX9_sparse 93 = .ok (.iload_n 1, 1) := by decide +kernel
theorem dX9_sparse_94 : decode cX9_sparse 94 = .ok (.invokestatic 164, 3) := by decide +kernel
theorem dX9_sparse_97 : decode cX9_sparse 97 = .ok (.istore 4, 2) := by decide +kernel
theorem dX9_sparse_99 : decode cX9_sparse 99 = .ok (.iload 4, 2) := by decide +kernel
theorem dX9_sparse_101 : decode cX9_sparse 101 = .ok (.ifCond .ne 23, 3) := by decide +kernel
theorem dX9_sparse_104 : decode cX9_sparse 104 = .ok (.aload_n 0, 1) := by decide +kernel
theorem dX9_sparse_105 : decode cX9_sparse 105 = .ok (.iload_n 3, 1) := by decide +kernel
theorem dX9_sparse_106 : decode cX9_sparse 106 = .ok (.iload_n 1, 1) := by decide +kernel
theorem dX9_sparse_107 : decode cX9_sparse 107 = .ok (.iconst 1, 1) := by decide +kernel
theorem dX9_sparse_108 : decode cX9_sparse 108 = .ok (.isub, 1) := by decide +kernel
theorem dX9_sparse_109 : decode cX9_sparse 109 = .ok (.invokevirtual 161, 3) := by decide +kernel
theorem dX9_sparse_112 : decode cX9_sparse 112 = .ok (.ifCond .ne 12, 3) := by decide +kernel
theorem dX9_sparse_115 : decode cX9_sparse 115 = .ok (.iinc 3 1, 3) := by decide +kernel
theorem dX9_sparse_118 : decode cX9_sparse 118 = .ok (.aload_n 0, 1) := by decide +kernel
theorem dX9_sparse_119 : decode cX9_sparse 119 = .ok (.iload_n 3, 1) := by decide +kernel
theorem dX9_sparse_120 : decode cX9_sparse 120 = .ok (.iconst 1, 1) := by decide +kernel
theorem dX9_sparse_121 : decode cX9_sparse 121 = .ok (.invokevirtual 149, 3) := by decide +kernel
theorem dX9_sparse_124 : decode cX9_sparse 124 = .ok (.goto (-74), 3) := by decide +kernel
theorem dX9_sparse_127 : decode cX9_sparse 127 = .ok (.aload_n 0, 1) := by decide +kernel
theorem dX9_sparse_128 : decode cX9_sparse 128 = .ok (.iload_n 3, 1) := by decide +kernel
theorem dX9_sparse_129 : decode cX9_sparse 129 = .ok (.invokevirtual 158, 3) := by decide +kernel
theorem dX9_sparse_132 : decode cX9_sparse 132 = .ok (.aload_n 0, 1) := by decide +kernel
theorem dX9_sparse_133 : decode cX9_sparse 133 = .ok (.iload_n 1, 1) := by decide +kernel
theorem dX9_sparse_134 : decode cX9_sparse 134 = .ok (.invokevirtual 57, 3) := by decide +kernel
theorem dX9_sparse_137 : decode cX9_sparse 137 = .ok (.aload_n 0, 1) := by decide +kernel
theorem dX9_sparse_138 : decode cX9_sparse 138 = .ok (.iload_n 2, 1) := by decide +kernel
theorem dX9_sparse_139 : decode cX9_sparse 139 = .ok (.invokevirtual 74, 3) := by decide +kernel
theorem dX9_sparse_142 : decode cX9_sparse 142 = .ok (.ireturn, 1) := by decide +kernel
theorem dX9_alike_0 : decode cX9_alike 0 = .ok (.iconst 0, 1) := by decide +kernel
theorem dX9_alike_1 : decode cX9_alike 1 = .ok (.istore_n 3, 1) := by decide +kernel
theorem dX9_alike_2 : decode cX9_alike 2 = .ok (.iload_n 3, 1) := by decide +kernel
theorem dX9_alike_3 : decode cX9_alike 3 = .ok (.iload_n 2, 1) := by decide +kernel
theorem dX9_alike_4 : decode cX9_alike 4 = .ok (.if_icmp .ge 16, 3) := by decide +kernel
theorem dX9_alike_7 : decode cX9_alike 7 = .ok (.aload_n 0, 1) := by decide +kernel
theorem dX9_alike_8 : decode cX9_alike 8 = .ok (.getfield 19, 3) := by decide +kernel
theorem dX9_alike_11 : decode cX9_alike 11 = .ok (.iload_n 3, 1) := by decide +kernel
theorem dX9_alike_12 : decode cX9_alike 12 = .ok (.iconst 0, 1) := by decide +kernel
theorem dX9_alike_13 : decode cX9_alike 13 = .ok (.iastore, 1) := by decide +kernel
theorem dX9_alike_14 : decode cX9_alike 14 = .ok (.iinc 3 1, 3) := by decide +kernel
theorem dX9_alike_17 : decode cX9_alike 17 = .ok (.goto (-15), 3) := by decide +kernel
theorem dX9_alike_20 : decode cX9_alike 20 = .ok (.iconst (-1), 1) := by decide +kernel
theorem dX9_alike_21 : decode cX9_alike 21 = .ok (.istore_n 3, 1) := by decide +kernel
theorem dX9_alike_22 : decode cX9_alike 22 = .ok (.iload_n 3, 1) := by decide +kernel
theorem dX9_alike_23 : decode cX9_alike 23 = .ok (.iload_n 1, 1) := by decide +kernel
theorem dX9_alike_24 : decode cX9_alike 24 = .ok (.if_icmp .ge 80, 3) := by decide +kernel
theorem dX9_alike_27 : decode cX9_alike 27 = .ok (.iconst (-1), 1) := by decide +kernel
theorem dX9_alike_28 : decode cX9_alike 28 = .ok (.istore 4, 2) := by decide +kernel
theorem dX9_alike_30 : decode cX9_alike 30 = .ok (.iload 4, 2) := by decide +kernel
theorem dX9_alike_32 : decode cX9_alike 32 = .ok (.iload_n 1, 1) := by decide +kernel
theorem dX9_alike_33 : decode cX9_alike 33 = .ok (.if_icmp .ge 65, 3) := by decide +kernel
theorem dX9_alike_36 : decode cX9_alike 36 = .ok (.iload_n 3, 1) := by decide +kernel
theorem dX9_alike_37 : decode cX9_alike 37 = .ok (.ifCond .ge 7, 3) := by decide +kernel
theorem dX9_alike_40 : decode cX9_alike 40 = .ok (.iconst 0, 1) := by decide +kernel
theorem dX9_alike_41 : decode cX9_alike 41 = .ok (.goto 9, 3) := by decide +kernel
theorem dX9_alike_44 : decode cX9_alike 44 = .ok (.aload_n 0, 1) := by decide +kernel
theorem dX9_alike_45 : decode cX9_alike 45 = .ok (.getfield 25, 3) := by decide +kernel
theorem dX9_alike_48 : decode cX9_alike 48 = .ok (.iload_n 3, 1) := by decide +kernel
theorem dX9_alike_49 : decode cX9_alike 49 = .ok (.iaload, 1) := by decide +kernel
theorem dX9_alike_50 : decode cX9_alike 50 = .ok (.iload 4, 2) := by decide +kernel
theorem dX9_alike_52 : decode cX9_alike 52 = .ok (.ifCond .ge 7, 3) := by decide +kernel
theorem dX9_alike_55 : decode cX9_alike 55 = .ok (.iconst 0, 1) := by decide +kernel
theorem dX9_alike_56 : decode cX9_alike 56 = .ok (.goto 10, 3) := by decide +kernel
theorem dX9_alike_59 : decode cX9_alike 59 = .ok (.aload_n 0, 1) := by decide +kernel
theorem dX9_alike_60 : decode cX9_alike 60 = .ok (.getfield 25, 3) := by decide +kernel
theorem dX9_alike_63 : decode cX9_alike 63 = .ok (.iload 4, 2) := by decide +kernel
theorem dX9_alike_65 : decode cX9_alike 65 = .ok (.iaload, 1) := by decide +kernel
theorem dX9_alike_66 : decode cX9_alike 66 = .ok (.isub, 1) := by decide +kernel
theorem dX9_alike_67 : decode cX9_alike 67 = .ok (.istore 5, 2) := by decide +kernel
theorem dX9_alike_69 : decode cX9_alike 69 = .ok (.aload_n 0, 1) := by decide +kernel
theorem dX9_alike_70 : decode cX9_alike 70 = .ok (.getfield 19, 3) := by decide +kernel
theorem dX9_alike_73 : decode cX9_alike 73 = .ok (.iload 5, 2) := by decide +kernel
theorem dX9_alike_75 : decode cX9_alike 75 = .ok (.ifCond .ge 10, 3) := by decide +kernel
theorem dX9_alike_78 : decode cX9_alike 78 = .ok (.iload 5, 2) := by decide +kernel
theorem dX9_alike_80 : decode cX9_alike 80 = .ok (.iload_n 2, 1) := by decide +kernel
theorem dX9_alike_81 : decode cX9_alike 81 = .ok (.iadd, 1) := by decide +kernel
theorem dX9_alike_82 : decode cX9_alike 82 = .ok (.goto 5, 3) := by decide +kernel
theorem dX9_alike_85 : decode cX9_alike 85 = .ok (.iload 5, 2) := by decide +kernel
theorem dX9_alike_87 : decode cX9_alike 87 = .ok (.dup2, 1) := by decide +kernel
theorem dX9_alike_88 : decode cX9_alike 88 = .ok (.iaload, 1) := by decide +kernel
theorem dX9_alike_89 : decode cX9_alike 89 = .ok (.iconst 1, 1) := by decide +kernel
theorem dX9_alike_90 : decode cX9_alike 90 = .ok (.iadd, 1) := by decide +kernel
theorem dX9_alike_91 : decode cX9_alike 91 = .ok (.iastore, 1) := by decide +kernel
theorem dX9_alike_92 : decode cX9_alike 92 = .ok (.iinc 4 1, 3) := by decide +kernel
theorem dX9_alike_95 : decode cX9_alike 95 = .ok (.goto (-65), 3) := by decide +kernel
theorem dX9_alike_98 : decode cX9_alike 98 = .ok (.iinc 3 1, 3) := by decide +kernel
theorem dX9_alike_101 : decode cX9_alike 101 = .ok (.goto (-79), 3) := by decide +kernel
theorem dX9_alike_104 : decode cX9_alike 104 = .ok (.iconst 1, 1) := by decide +kernel
theorem dX9_alike_105 : decode cX9_alike 105 = .ok (.istore_n 3, 1) := by decide +kernel
theorem dX9_alike_106 : decode cX9_alike 106 = .ok (.iconst 2, 1) := by decide +kernel
theorem dX9_alike_107 : decode cX9_alike 107 = .ok (.istore 4, 2) := by decide +kernel
theorem dX9_alike_109 : decode cX9_alike 109 = .ok (.iload 4, 2) := by decide +kernel
theorem dX9_alike_111 : decode cX9_alike 111 = .ok (.iload_n 2, 1) := by decide +kernel
theorem dX9_alike_112 : decode cX9_alike 112 = .ok (.if_icmp .ge 35, 3) := by decide +kernel
theorem dX9_alike_115 : decode cX9_alike 115 = .ok (.iload_n 3, 1) := by decide +kernel
theorem dX9_alike_116 : decode cX9_alike 116 = .ok (.ifCond .eq 23, 3) := by decide +kernel
theorem dX9_alike_119 : decode cX9_alike 119 = .ok (.aload_n 0, 1) := by decide +kernel
theorem dX9_alike_120 : decode cX9_alike 120 = .ok (.getfield 19, 3) := by decide +kernel
theorem dX9_alike_123 : decode cX9_alike 123 = .ok (.iload 4, 2) := by decide +kernel
theorem dX9_alike_125 : decode cX9_alike 125 = .ok (.iaload, 1) := by decide +kernel
theorem dX9_alike_126 : decode cX9_alike 126 = .ok (.aload_n 0, 1) := by decide +kernel
theorem dX9_alike_127 : decode cX9_alike 127 = .ok (.getfield 19, 3) := by decide +kernel
theorem dX9_alike_130 : decode cX9_alike 130 = .ok (.iconst 1, 1) := by decide +kernel
theorem dX9_alike_131 : decode cX9_alike 131 = .ok (.iaload, 1) := by decide +kernel
theorem dX9_alike_132 : decode cX9_alike 132 = .ok (.if_icmp .ne 7, 3) := by decide +kernel
theorem dX9_alike_135 : decode cX9_alike 135 = .ok (.iconst 1, 1) := by decide +kernel
theorem dX9_alike_136 : decode cX9_alike 136 = .ok (.goto 4, 3) := by decide +kernel
theorem dX9_alike_139 : decode cX9_alike 139 = .ok (.iconst 0, 1) := by decide +kernel
theorem dX9_alike_140 : decode cX9_alike 140 = .ok (.istore_n 3, 1) := by decide +kernel
theorem dX9_alike_141 : decode cX9_alike 141 = .ok (.iinc 4 1, 3) := by decide +kernel
theorem dX9_alike_144 : decode cX9_alike 144 = .ok (.goto (-35), 3) := by decide +kernel
theorem dX9_alike_147 : decode cX9_alike 147 = .ok (.iload_n 3, 1) := by decide +kernel
theorem dX9_alike_148 : decode cX9_alike 148 = .ok (.ifCond .eq 12, 3) := by decide +kernel
theorem dX9_alike_151 : decode cX9_alike 151 = .ok (.aload_n 0, 1) := by decide +kernel
theorem dX9_alike_152 : decode cX9_alike 152 = .ok (.getfield 19, 3) := by decide +kernel
theorem dX9_alike_155 : decode cX9_alike 155 = .ok (.iconst 1, 1) := by decide +kernel
theorem dX9_alike_156 : decode cX9_alike 156 = .ok (.iaload, 1) := by decide +kernel
theorem dX9_alike_157 : decode cX9_alike 157 = .ok (.goto 4, 3) := by decide +kernel
theorem dX9_alike_160 : decode cX9_alike 160 = .ok (.iconst (-1), 1) := by decide +kernel
theorem dX9_alike_161 : decode cX9_alike 161 = .ok (.ireturn, 1) := by decide +kernel
theorem dX9_firstDifferenceSet_0 : decode cX9_firstDifferenceSet 0 = .ok (.aload_n 0, 1) := by decide +kernel
theorem dX9_firstDifferenceSet_1 : decode cX9_firstDifferenceSet 1 = .ok (.iload_n 3, 1) := by decide +kernel
theorem dX9_firstDifferenceSet_2 : decode cX9_firstDifferenceSet 2 = .ok (.invokestatic 61, 3) := by decide +kernel
theorem dX9_firstDifferenceSet_5 : decode cX9_firstDifferenceSet 5 = .ok (.ifCond .ne 7, 3) := by decide +kernel
theorem dX9_firstDifferenceSet_8 : decode cX9_firstDifferenceSet 8 = .ok (.iconst 1, 1) := by decide +kernel
theorem dX9_firstDifferenceSet_9 : decode cX9_firstDifferenceSet 9 = .ok (.goto 33, 3) := by decide +kernel
theorem dX9_firstDifferenceSet_12 : decode cX9_firstDifferenceSet 12 = .ok (.iload_n 1, 1) := by decide +kernel
theorem dX9_firstDifferenceSet_13 : decode cX9_firstDifferenceSet 13 = .ok (.iconst 3, 1) := by decide +kernel
theorem dX9_firstDifferenceSet_14 : decode cX9_firstDifferenceSet 14 = .ok (.bipush 31, 2) := by decide +kernel
theorem dX9_firstDifferenceSet_16 : decode cX9_firstDifferenceSet 16 = .ok (.invokestatic 32, 3) := by decide +kernel
theorem dX9_firstDifferenceSet_19 : decode cX9_firstDifferenceSet 19 = .ok (.ifCond .eq 22, 3) := by decide +kernel
theorem dX9_firstDifferenceSet_22 : decode cX9_firstDifferenceSet 22 = .ok (.iload_n 2, 1) := by decide +kernel
theorem dX9_firstDifferenceSet_23 : decode cX9_firstDifferenceSet 23 = .ok (.iconst 2, 1) := by decide +kernel
theorem dX9_firstDifferenceSet_24 : decode cX9_firstDifferenceSet 24 = .ok (.bipush 6, 2) := by decide +kernel
theorem dX9_firstDifferenceSet_26 : decode cX9_firstDifferenceSet 26 = .ok (.invokestatic 32, 3) := by decide +kernel
theorem dX9_firstDifferenceSet_29 : decode cX9_firstDifferenceSet 29 = .ok (.ifCond .eq 12, 3) := by decide +kernel
theorem dX9_firstDifferenceSet_32 : decode cX9_firstDifferenceSet 32 = .ok (.iload_n 2, 1) := by decide +kernel
theorem dX9_firstDifferenceSet_33 : decode cX9_firstDifferenceSet 33 = .ok (.iload_n 1, 1) := by decide +kernel
theorem dX9_firstDifferenceSet_34 : decode cX9_firstDifferenceSet 34 = .ok (.if_icmp .ge 7, 3) := by decide +kernel
theorem dX9_firstDifferenceSet_37 : decode cX9_firstDifferenceSet 37 = .ok (.iconst 0, 1) := by decide +kernel
theorem dX9_firstDifferenceSet_38 : decode cX9_firstDifferenceSet 38 = .ok (.goto 4, 3) := by decide +kernel
theorem dX9_firstDifferenceSet_41 : decode cX9_firstDifferenceSet 41 = .ok (.iconst 2, 1) := by decide +kernel
theorem dX9_firstDifferenceSet_42 : decode cX9_firstDifferenceSet 42 = .ok (.invokevirtual 39, 3) := by decide +kernel
theorem dX9_firstDifferenceSet_45 : decode cX9_firstDifferenceSet 45 = .ok (.ifCond .eq 5, 3) := by decide +kernel
theorem dX9_firstDifferenceSet_48 : decode cX9_firstDifferenceSet 48 = .ok (.iconst 0, 1) := by decide +kernel
theorem dX9_firstDifferenceSet_49 : decode cX9_firstDifferenceSet 49 = .ok (.ireturn, 1) := by decide +kernel
theorem dX9_firstDifferenceSet_50 : decode cX9_firstDifferenceSet 50 = .ok (.iload_n 2, 1) := by decide +kernel
theorem dX9_firstDifferenceSet_51 : decode cX9_firstDifferenceSet 51 = .ok (.iload_n 2, 1) := by decide +kernel
theorem dX9_firstDifferenceSet_52 : decode cX9_firstDifferenceSet 52 = .ok (.iconst 1, 1) := by decide +kernel
theorem dX9_firstDifferenceSet_53 : decode cX9_firstDifferenceSet 53 = .ok (.isub, 1) := by decide +kernel
theorem dX9_firstDifferenceSet_54 : decode cX9_firstDifferenceSet 54 = .ok (.imul, 1) := by decide +kernel
theorem dX9_firstDifferenceSet_55 : decode cX9_firstDifferenceSet 55 = .ok (.iload_n 1, 1) := by decide +kernel
theorem dX9_firstDifferenceSet_56 : decode cX9_firstDifferenceSet 56 = .ok (.iconst 1, 1) := by decide +kernel
theorem dX9_firstDifferenceSet_57 : decode cX9_firstDifferenceSet 57 = .ok (.isub, 1) := by decide +kernel
theorem dX9_firstDifferenceSet_58 : decode cX9_firstDifferenceSet 58 = .ok (.irem, 1) := by decide +kernel
theorem dX9_firstDifferenceSet_59 : decode cX9_firstDifferenceSet 59 = .ok (.ifCond .ne 7, 3) := by decide +kernel
theorem dX9_firstDifferenceSet_62 : decode cX9_firstDifferenceSet 62 = .ok (.iconst 1, 1) := by decide +kernel
theorem dX9_firstDifferenceSet_63 : decode cX9_firstDifferenceSet 63 = .ok (.goto 4, 3) := by decide +kernel
theorem dX9_firstDifferenceSet_66 : decode cX9_firstDifferenceSet 66 = .ok (.iconst 0, 1) := by decide +kernel
theorem dX9_firstDifferenceSet_67 : decode cX9_firstDifferenceSet 67 = .ok (.istore 4, 2) := by decide +kernel
theorem dX9_firstDifferenceSet_69 : decode cX9_firstDifferenceSet 69 = .ok (.iconst (-1), 1) := by decide +kernel
theorem dX9_firstDifferenceSet_70 : decode cX9_firstDifferenceSet 70 = .ok (.istore 5, 2) := by decide +kernel
theorem dX9_firstDifferenceSet_72 : decode cX9_firstDifferenceSet 72 = .ok (.aload_n 0, 1) := by decide +kernel
theorem dX9_firstDifferenceSet_73 : decode cX9_firstDifferenceSet 73 = .ok (.iload_n 2, 1) := by decide +kernel
theorem dX9_firstDifferenceSet_74 : decode cX9_firstDifferenceSet 74 = .ok (.iconst 1, 1) := by decide +kernel
theorem dX9_firstDifferenceSet_75 : decode cX9_firstDifferenceSet 75 = .ok (.isub, 1) := by decide +kernel
theorem dX9_firstDifferenceSet_76 : decode cX9_firstDifferenceSet 76 = .ok (.iconst 1, 1) := by decide +kernel
theorem dX9_firstDifferenceSet_77 : decode cX9_firstDifferenceSet 77 = .ok (.invokevirtual 149, 3) := by decide +kernel
theorem dX9_firstDifferenceSet_80 : decode cX9_firstDifferenceSet 80 = .ok (.iload 4, 2) := by decide +kernel
theorem dX9_firstDifferenceSet_82 : decode cX9_firstDifferenceSet 82 = .ok (.ifCond .eq 42, 3) := by decide +kernel
theorem dX9_firstDifferenceSet_85 : decode cX9_firstDifferenceSet 85 = .ok (.aload_n 0, 1) := by decide +kernel
theorem dX9_firstDifferenceSet_86 : decode cX9_firstDifferenceSet 86 = .ok (.iload_n 2, 1) := by decide +kernel
theorem dX9_firstDifferenceSet_87 : decode cX9_firstDifferenceSet 87 = .ok (.iconst 1, 1) := by decide +kernel
theorem dX9_firstDifferenceSet_88 : decode cX9_firstDifferenceSet 88 = .ok (.isub, 1) := by decide +kernel
theorem dX9_firstDifferenceSet_89 : decode cX9_firstDifferenceSet 89 = .ok (.iload_n 1, 1) := by decide +kernel
theorem dX9_firstDifferenceSet_90 : decode cX9_firstDifferenceSet 90 = .ok (.invokevirtual 167, 3) := by decide +kernel
theorem dX9_firstDifferenceSet_93 : decode cX9_firstDifferenceSet 93 = .ok (.istore 5, 2) := by decide +kernel
theorem dX9_firstDifferenceSet_95 : decode cX9_firstDifferenceSet 95 = .ok (.iload 5, 2) := by decide +kernel
theorem dX9_firstDifferenceSet_97 : decode cX9_firstDifferenceSet 97 = .ok (.iconst (-1), 1) := by decide +kernel
theorem dX9_firstDifferenceSet_98 : decode cX9_firstDifferenceSet 98 = .ok (.if_icmp .ne 20, 3) := by decide +kernel
theorem dX9_firstDifferenceSet_101 : decode cX9_firstDifferenceSet 101 = .ok (.aload_n 0, 1) := by decide +kernel
theorem dX9_firstDifferenceSet_102 : decode cX9_firstDifferenceSet 102 = .ok (.iload_n 2, 1) := by decide +kernel
theorem dX9_firstDifferenceSet_103 : decode cX9_firstDifferenceSet 103 = .ok (.iconst 1, 1) := by decide +kernel
theorem dX9_firstDifferenceSet_104 : decode cX9_firstDifferenceSet 104 = .ok (.isub, 1) := by decide +kernel
theorem dX9_firstDifferenceSet_105 : decode cX9_firstDifferenceSet 105 = .ok (.iload_n 1, 1) := by decide +kernel
theorem dX9_firstDifferenceSet_106 : decode cX9_firstDifferenceSet 106 = .ok (.iconst 1, 1) := by decide +kernel
theorem dX9_firstDifferenceSet_107 : decode cX9_firstDifferenceSet 107 = .ok (.isub, 1) := by decide +kernel
theorem dX9_firstDifferenceSet_108 : decode cX9_firstDifferenceSet 108 = .ok (.invokevirtual 161, 3) := by decide +kernel
theorem dX9_firstDifferenceSet_111 : decode cX9_firstDifferenceSet 111 = .ok (.ifCond .eq 7, 3) := by decide +kernel
theorem dX9_firstDifferenceSet_114 : decode cX9_firstDifferenceSet 114 = .ok (.iconst 1, 1) := by decide +kernel
theorem dX9_firstDifferenceSet_115 : decode cX9_firstDifferenceSet 115 = .ok (.goto 4, 3) := by decide +kernel
theorem dX9_firstDifferenceSet_118 : decode cX9_firstDifferenceSet 118 = .ok (.iconst 0, 1) := by decide +kernel
theorem dX9_firstDifferenceSet_119 : decode cX9_firstDifferenceSet 119 = .ok (.istore 4, 2) := by decide +kernel
theorem dX9_firstDifferenceSet_121 : decode cX9_firstDifferenceSet 121 = .ok (.goto (-41), 3) := by decide +kernel
theorem dX9_firstDifferenceSet_124 : decode cX9_firstDifferenceSet 124 = .ok (.iload 5, 2) := by decide +kernel
theorem dX9_firstDifferenceSet_126 : decode cX9_firstDifferenceSet 126 = .ok (.iconst (-1), 1) := by decide +kernel
theorem dX9_firstDifferenceSet_127 : decode cX9_firstDifferenceSet 127 = .ok (.if_icmp .ne 5, 3) := by decide +kernel
theorem dX9_firstDifferenceSet_130 : decode cX9_firstDifferenceSet 130 = .ok (.iconst (-1), 1) := by decide +kernel
theorem dX9_firstDifferenceSet_131 : decode cX9_firstDifferenceSet 131 = .ok (.ireturn, 1) := by decide +kernel
theorem dX9_firstDifferenceSet_132 : decode cX9_firstDifferenceSet 132 = .ok (.aload_n 0, 1) := by decide +kernel
theorem dX9_firstDifferenceSet_133 : decode cX9_firstDifferenceSet 133 = .ok (.invokevirtual 67, 3) := by decide +kernel
theorem dX9_firstDifferenceSet_136 : decode cX9_firstDifferenceSet 136 = .ok (.aload_n 0, 1) := by decide +kernel
theorem dX9_firstDifferenceSet_137 : decode cX9_firstDifferenceSet 137 = .ok (.iload_n 2, 1) := by decide +kernel
theorem dX9_firstDifferenceSet_138 : decode cX9_firstDifferenceSet 138 = .ok (.iconst 1, 1) := by decide +kernel
theorem dX9_firstDifferenceSet_139 : decode cX9_firstDifferenceSet 139 = .ok (.isub, 1) := by decide +kernel
theorem dX9_firstDifferenceSet_140 : decode cX9_firstDifferenceSet 140 = .ok (.invokevirtual 158, 3) := by decide +kernel
theorem dX9_firstDifferenceSet_143 : decode cX9_firstDifferenceSet 143 = .ok (.aload_n 0, 1) := by decide +kernel
theorem dX9_firstDifferenceSet_144 : decode cX9_firstDifferenceSet 144 = .ok (.iload_n 3, 1) := by decide +kernel
theorem dX9_firstDifferenceSet_145 : decode cX9_firstDifferenceSet 145 = .ok (.invokevirtual 74, 3) := by decide +kernel
theorem dX9_firstDifferenceSet_148 : decode cX9_firstDifferenceSet 148 = .ok (.pop, 1) := by decide +kernel
theorem dX9_firstDifferenceSet_149 : decode cX9_firstDifferenceSet 149 = .ok (.aload_n 0, 1) := by decide +kernel
theorem dX9_firstDifferenceSet_150 : decode cX9_firstDifferenceSet 150 = .ok (.getfield 7, 3) := by decide +kernel
theorem dX9_firstDifferenceSet_153 : decode cX9_firstDifferenceSet 153 = .ok (.iconst 0, 1) := by decide +kernel
theorem dX9_firstDifferenceSet_154 : decode cX9_firstDifferenceSet 154 = .ok (.iload_n 1, 1) := by decide +kernel
theorem dX9_firstDifferenceSet_155 : decode cX9_firstDifferenceSet 155 = .ok (.iastore, 1) := by decide +kernel
theorem dX9_firstDifferenceSet_156 : decode cX9_firstDifferenceSet 156 = .ok (.iload 5, 2) := by decide +kernel
theorem dX9_firstDifferenceSet_158 : decode cX9_firstDifferenceSet 158 = .ok (.ireturn, 1) := by decide +kernel
theorem dX9_mix_0 : decode cX9_mix 0 = .ok (.aload_n 0, 1) := by decide +kernel
theorem dX9_mix_1 : decode cX9_mix 1 = .ok (.ldc2_w 170, 3) := by decide +kernel
theorem dX9_mix_4 : decode cX9_mix 4 = .ok (.aload_n 0, 1) := by decide +kernel
theorem dX9_mix_5 : decode cX9_mix 5 = .ok (.getfield 172, 3) := by decide +kernel
theorem dX9_mix_8 : decode cX9_mix 8 = .ok (.lmul, 1) := by decide +kernel
theorem dX9_mix_9 : decode cX9_mix 9 = .ok (.iload_n 1, 1) := by decide +kernel
theorem dX9_mix_10 : decode cX9_mix 10 = .ok (.i2l, 1) := by decide +kernel
theorem dX9_mix_11 : decode cX9_mix 11 = .ok (.ladd, 1) := by decide +kernel
theorem dX9_mix_12 : decode cX9_mix 12 = .ok (.putfield 172, 3) := by decide +kernel
theorem dX9_mix_15 : decode cX9_mix 15 = .ok (.return_, 1) := by decide +kernel
theorem dX9_digest_0 : decode cX9_digest 0 = .ok (.aload_n 0, 1) := by decide +kernel
theorem dX9_digest_1 : decode cX9_digest 1 = .ok (.iconst 0, 1) := by decide +kernel
theorem dX9_digest_2 : decode cX9_digest 2 = .ok (.putfield 28, 3) := by decide +kernel
theorem dX9_digest_5 : decode cX9_digest 5 = .ok (.aload_n 0, 1) := by decide +kernel
theorem dX9_digest_6 : decode cX9_digest 6 = .ok (.ldc2_w 176, 3) := by decide +kernel
theorem dX9_digest_9 : decode cX9_digest 9 = .ok (.putfield 172, 3) := by decide +kernel
theorem dX9_digest_12 : decode cX9_digest 12 = .ok (.aload_n 0, 1) := by decide +kernel
theorem dX9_digest_13 : decode cX9_digest 13 = .ok (.aload_n 0, 1) := by decide +kernel
theorem dX9_digest_14 : decode cX9_digest 14 = .ok (.getfield 36, 3) := by decide +kernel
theorem dX9_digest_17 : decode cX9_digest 17 = .ok (.invokevirtual 178, 3) := by decide +kernel
theorem dX9_digest_20 : decode cX9_digest 20 = .ok (.aload_n 0, 1) := by decide +kernel
theorem dX9_digest_21 : decode cX9_digest 21 = .ok (.aload_n 0, 1) := by decide +kernel
theorem dX9_digest_22 : decode cX9_digest 22 = .ok (.invokevirtual 98, 3) := by decide +kernel
theorem dX9_digest_25 : decode cX9_digest 25 = .ok (.invokevirtual 178, 3) := by decide +kernel
theorem dX9_digest_28 : decode cX9_digest 28 = .ok (.iconst 0, 1) := by decide +kernel
theorem dX9_digest_29 : decode cX9_digest 29 = .ok (.istore_n 1, 1) := by decide +kernel
theorem dX9_digest_30 : decode cX9_digest 30 = .ok (.iload_n 1, 1) := by decide +kernel
theorem dX9_digest_31 : decode cX9_digest 31 = .ok (.iconst 4, 1) := by decide +kernel
theorem dX9_digest_32 : decode cX9_digest 32 = .ok (.if_icmp .ge 106, 3) := by decide +kernel
theorem dX9_digest_35 : decode cX9_digest 35 = .ok (.iconst 0, 1) := by decide +kernel
theorem dX9_digest_36 : decode cX9_digest 36 = .ok (.istore_n 2, 1) := by decide +kernel
theorem dX9_digest_37 : decode cX9_digest 37 = .ok (.iload_n 2, 1) := by decide +kernel
theorem dX9_digest_38 : decode cX9_digest 38 = .ok (.aload_n 0, 1) := by decide +kernel
theorem dX9_digest_39 : decode cX9_digest 39 = .ok (.iload_n 1, 1) := by decide +kernel
theorem dX9_digest_40 : decode cX9_digest 40 = .ok (.invokevirtual 46, 3) := by decide +kernel
theorem dX9_digest_43 : decode cX9_digest 43 = .ok (.if_icmp .gt 26, 3) := by decide +kernel
theorem dX9_digest_46 : decode cX9_digest 46 = .ok (.aload_n 0, 1) := by decide +kernel
theorem dX9_digest_47 : decode cX9_digest 47 = .ok (.aload_n 0, 1) := by decide +kernel
theorem dX9_digest_48 : decode cX9_digest 48 = .ok (.getfield 7, 3) := by decide +kernel
theorem dX9_digest_51 : decode cX9_digest 51 = .ok (.iconst 1, 1) := by decide +kernel
theorem dX9_digest_52 : decode cX9_digest 52 = .ok (.bipush 25, 2) := by decide +kernel
theorem dX9_digest_54 : decode cX9_digest 54 = .ok (.iload_n 1, 1) := by decide +kernel
theorem dX9_digest_55 : decode cX9_digest 55 = .ok (.imul, 1) := by decide +kernel
theorem dX9_digest_56 : decode cX9_digest 56 = .ok (.iadd, 1) := by decide +kernel
theorem dX9_digest_57 : decode cX9_digest 57 = .ok (.iload_n 2, 1) := by decide +kernel
theorem dX9_digest_58 : decode cX9_digest 58 = .ok (.iadd, 1) := by decide +kernel
theorem dX9_digest_59 : decode cX9_digest 59 = .ok (.iaload, 1) := by decide +kernel
theorem dX9_digest_60 : decode cX9_digest 60 = .ok (.invokevirtual 178, 3) := by decide +kernel
theorem dX9_digest_63 : decode cX9_digest 63 = .ok (.iinc 2 1, 3) := by decide +kernel
theorem dX9_digest_66 : decode cX9_digest 66 = .ok (.goto (-29), 3) := by decide +kernel
theorem dX9_digest_69 : decode cX9_digest 69 = .ok (.aload_n 0, 1) := by decide +kernel
theorem dX9_digest_70 : decode cX9_digest 70 = .ok (.aload_n 0, 1) := by decide +kernel
theorem dX9_digest_71 : decode cX9_digest 71 = .ok (.iconst 1, 1) := by decide +kernel
theorem dX9_digest_72 : decode cX9_digest 72 = .ok (.iload_n 1, 1) := by decide +kernel
theorem dX9_digest_73 : decode cX9_digest 73 = .ok (.ishl, 1) := by decide +kernel
theorem dX9_digest_74 : decode cX9_digest 74 = .ok (.invokevirtual 89, 3) := by decide +kernel
theorem dX9_digest_77 : decode cX9_digest 77 = .ok (.ifCond .eq 7, 3) := by decide +kernel
theorem dX9_digest_80 : decode cX9_digest 80 = .ok (.iconst 1, 1) := by decide +kernel
theorem dX9_digest_81 : decode cX9_digest 81 = .ok (.goto 4, 3) := by decide +kernel
theorem dX9_digest_84 : decode cX9_digest 84 = .ok (.iconst 0, 1) := by decide +kernel
theorem dX9_digest_85 : decode cX9_digest 85 = .ok (.invokevirtual 178, 3) := by decide +kernel
theorem dX9_digest_88 : decode cX9_digest 88 = .ok (.aload_n 0, 1) := by decide +kernel
theorem dX9_digest_89 : decode cX9_digest 89 = .ok (.aload_n 0, 1) := by decide +kernel
theorem dX9_digest_90 : decode cX9_digest 90 = .ok (.iload_n 1, 1) := by decide +kernel
theorem dX9_digest_91 : decode cX9_digest 91 = .ok (.invokevirtual 92, 3) := by decide +kernel
theorem dX9_digest_94 : decode cX9_digest 94 = .ok (.invokevirtual 178, 3) := by decide +kernel
theorem dX9_digest_97 : decode cX9_digest 97 = .ok (.aload_n 0, 1) := by decide +kernel
theorem dX9_digest_98 : decode cX9_digest 98 = .ok (.aload_n 0, 1) := by decide +kernel
theorem dX9_digest_99 : decode cX9_digest 99 = .ok (.iload_n 1, 1) := by decide +kernel
theorem dX9_digest_100 : decode cX9_digest 100 = .ok (.invokevirtual 95, 3) := by decide +kernel
theorem dX9_digest_103 : decode cX9_digest 103 = .ok (.invokevirtual 178, 3) := by decide +kernel
theorem dX9_digest_106 : decode cX9_digest 106 = .ok (.aload_n 0, 1) := by decide +kernel
theorem dX9_digest_107 : decode cX9_digest 107 = .ok (.iload_n 1, 1) := by decide +kernel
theorem dX9_digest_108 : decode cX9_digest 108 = .ok (.invokevirtual 105, 3) := by decide +kernel
theorem dX9_digest_111 : decode cX9_digest 111 = .ok (.ifCond .eq 21, 3) := by decide +kernel
theorem dX9_digest_114 : decode cX9_digest 114 = .ok (.aload_n 0, 1) := by decide +kernel
theorem dX9_digest_115 : decode cX9_digest 115 = .ok (.aload_n 0, 1) := by decide +kernel
theorem dX9_digest_116 : decode cX9_digest 116 = .ok (.iload_n 1, 1) := by decide +kernel
theorem dX9_digest_117 : decode cX9_digest 117 = .ok (.invokevirtual 114, 3) := by decide +kernel
theorem dX9_digest_120 : decode cX9_digest 120 = .ok (.invokevirtual 178, 3) := by decide +kernel
theorem dX9_digest_123 : decode cX9_digest 123 = .ok (.aload_n 0, 1) := by decide +kernel
theorem dX9_digest_124 : decode cX9_digest 124 = .ok (.aload_n 0, 1) := by decide +kernel
theorem dX9_digest_125 : decode cX9_digest 125 = .ok (.iload_n 1, 1) := by decide +kernel
theorem dX9_digest_126 : decode cX9_digest 126 = .ok (.invokevirtual 127, 3) := by decide +kernel
theorem dX9_digest_129 : decode cX9_digest 129 = .ok (.invokevirtual 178, 3) := by decide +kernel
theorem dX9_digest_132 : decode cX9_digest 132 = .ok (.iinc 1 1, 3) := by decide +kernel
theorem dX9_digest_135 : decode cX9_digest 135 = .ok (.goto (-105), 3) := by decide +kernel
theorem dX9_digest_138 : decode cX9_digest 138 = .ok (.iconst 0, 1) := by decide +kernel
theorem dX9_digest_139 : decode cX9_digest 139 = .ok (.istore_n 1, 1) := by decide +kernel
theorem dX9_digest_140 : decode cX9_digest 140 = .ok (.iload_n 1, 1) := by decide +kernel
theorem dX9_digest_141 : decode cX9_digest 141 = .ok (.bipush 16, 2) := by decide +kernel
theorem dX9_digest_143 : decode cX9_digest 143 = .ok (.if_icmp .ge 26, 3) := by decide +kernel
theorem dX9_digest_146 : decode cX9_digest 146 = .ok (.aload_n 0, 1) := by decide +kernel
theorem dX9_digest_147 : decode cX9_digest 147 = .ok (.aload_n 0, 1) := by decide +kernel
theorem dX9_digest_148 : decode cX9_digest 148 = .ok (.iload_n 1, 1) := by decide +kernel
theorem dX9_digest_149 : decode cX9_digest 149 = .ok (.invokevirtual 89, 3) := by decide +kernel
theorem dX9_digest_152 : decode cX9_digest 152 = .ok (.ifCond .eq 7, 3) := by decide +kernel
theorem dX9_digest_155 : decode cX9_digest 155 = .ok (.iconst 1, 1) := by decide +kernel
theorem dX9_digest_156 : decode cX9_digest 156 = .ok (.goto 4, 3) := by decide +kernel
theorem dX9_digest_159 : decode cX9_digest 159 = .ok (.iconst 0, 1) := by decide +kernel
theorem dX9_digest_160 : decode cX9_digest 160 = .ok (.invokevirtual 178, 3) := by decide +kernel
theorem dX9_digest_163 : decode cX9_digest 163 = .ok (.iinc 1 1, 3) := by decide +kernel
theorem dX9_digest_166 : decode cX9_digest 166 = .ok (.goto (-26), 3) := by decide +kernel
theorem dX9_digest_169 : decode cX9_digest 169 = .ok (.aload_n 0, 1) := by decide +kernel
theorem dX9_digest_170 : decode cX9_digest 170 = .ok (.getfield 172, 3) := by decide +kernel
theorem dX9_digest_173 : decode cX9_digest 173 = .ok (.lreturn, 1) := by decide +kernel
theorem dJ6_numberOfTrailingZeros_0f7a4_0 : decode cJ6_numberOfTrailingZeros_0f7a4 0 = .ok (.iload_n 0, 1) := by decide +kernel
theorem dJ6_numberOfTrailingZeros_0f7a4_1 : decode cJ6_numberOfTrailingZeros_0f7a4 1 = .ok (.iconst (-1), 1) := by decide +kernel
theorem dJ6_numberOfTrailingZeros_0f7a4_2 : decode cJ6_numberOfTrailingZeros_0f7a4 2 = .ok (.ixor, 1) := by decide +kernel
theorem dJ6_numberOfTrailingZeros_0f7a4_3 : decode cJ6_numberOfTrailingZeros_0f7a4 3 = .ok (.iload_n 0, 1) := by decide +kernel
theorem dJ6_numberOfTrailingZeros_0f7a4_4 : decode cJ6_numberOfTrailingZeros_0f7a4 4 = .ok (.iconst 1, 1) := by decide +kernel
theorem dJ6_numberOfTrailingZeros_0f7a4_5 : decode cJ6_numberOfTrailingZeros_0f7a4 5 = .ok (.isub, 1) := by decide +kernel
theorem dJ6_numberOfTrailingZeros_0f7a4_6 : decode cJ6_numberOfTrailingZeros_0f7a4 6 = .ok (.iand, 1) := by decide +kernel
theorem dJ6_numberOfTrailingZeros_0f7a4_7 : decode cJ6_numberOfTrailingZeros_0f7a4 7 = .ok (.istore_n 0, 1) := by decide +kernel
theorem dJ6_numberOfTrailingZeros_0f7a4_8 : decode cJ6_numberOfTrailingZeros_0f7a4 8 = .ok (.iload_n 0, 1) := by decide +kernel
theorem dJ6_numberOfTrailingZeros_0f7a4_9 : decode cJ6_numberOfTrailingZeros_0f7a4 9 = .ok (.ifCond .gt 8, 3) := by decide +kernel
theorem dJ6_numberOfTrailingZeros_0f7a4_12 : decode cJ6_numberOfTrailingZeros_0f7a4 12 = .ok (.iload_n 0, 1) := by decide +kernel
theorem dJ6_numberOfTrailingZeros_0f7a4_13 : decode cJ6_numberOfTrailingZeros_0f7a4 13 = .ok (.bipush 32, 2) := by decide +kernel
theorem dJ6_numberOfTrailingZeros_0f7a4_15 : decode cJ6_numberOfTrailingZeros_0f7a4 15 = .ok (.iand, 1) := by decide +kernel
theorem dJ6_numberOfTrailingZeros_0f7a4_16 : decode cJ6_numberOfTrailingZeros_0f7a4 16 = .ok (.ireturn, 1) := by decide +kernel
theorem dJ6_numberOfTrailingZeros_0f7a4_17 : decode cJ6_numberOfTrailingZeros_0f7a4 17 = .ok (.iconst 1, 1) := by decide +kernel
theorem dJ6_numberOfTrailingZeros_0f7a4_18 : decode cJ6_numberOfTrailingZeros_0f7a4 18 = .ok (.istore_n 1, 1) := by decide +kernel
theorem dJ6_numberOfTrailingZeros_0f7a4_19 : decode cJ6_numberOfTrailingZeros_0f7a4 19 = .ok (.iload_n 0, 1) := by decide +kernel
theorem dJ6_numberOfTrailingZeros_0f7a4_20 : decode cJ6_numberOfTrailingZeros_0f7a4 20 = .ok (.ldc_w 264, 3) := by decide +kernel
theorem dJ6_numberOfTrailingZeros_0f7a4_23 : decode cJ6_numberOfTrailingZeros_0f7a4 23 = .ok (.if_icmp .le 11, 3) := by decide +kernel
theorem dJ6_numberOfTrailingZeros_0f7a4_26 : decode cJ6_numberOfTrailingZeros_0f7a4 26 = .ok (.iinc 1 16, 3) := by decide +kernel
theorem dJ6_numberOfTrailingZeros_0f7a4_29 : decode cJ6_numberOfTrailingZeros_0f7a4 29 = .ok (.iload_n 0, 1) := by decide +kernel
theorem dJ6_numberOfTrailingZeros_0f7a4_30 : decode cJ6_numberOfTrailingZeros_0f7a4 30 = .ok (.bipush 16, 2) := by decide +kernel
theorem dJ6_numberOfTrailingZeros_0f7a4_32 : decode cJ6_numberOfTrailingZeros_0f7a4 32 = .ok (.iushr, 1) := by decide +kernel
theorem dJ6_numberOfTrailingZeros_0f7a4_33 : decode cJ6_numberOfTrailingZeros_0f7a4 33 = .ok (.istore_n 0, 1) := by decide +kernel
theorem dJ6_numberOfTrailingZeros_0f7a4_34 : decode cJ6_numberOfTrailingZeros_0f7a4 34 = .ok (.iload_n 0, 1) := by decide +kernel
theorem dJ6_numberOfTrailingZeros_0f7a4_35 : decode cJ6_numberOfTrailingZeros_0f7a4 35 = .ok (.sipush 256, 3) := by decide +kernel
theorem dJ6_numberOfTrailingZeros_0f7a4_38 : decode cJ6_numberOfTrailingZeros_0f7a4 38 = .ok (.if_icmp .le 11, 3) := by decide +kernel
theorem dJ6_numberOfTrailingZeros_0f7a4_41 : decode cJ6_numberOfTrailingZeros_0f7a4 41 = .ok (.iinc 1 8, 3) := by decide +kernel
theorem dJ6_numberOfTrailingZeros_0f7a4_44 : decode cJ6_numberOfTrailingZeros_0f7a4 44 = .ok (.iload_n 0, 1) := by decide +kernel
theorem dJ6_numberOfTrailingZeros_0f7a4_45 : decode cJ6_numberOfTrailingZeros_0f7a4 45 = .ok (.bipush 8, 2) := by decide +kernel
theorem dJ6_numberOfTrailingZeros_0f7a4_47 : decode cJ6_numberOfTrailingZeros_0f7a4 47 = .ok (.iushr, 1) := by decide +kernel
theorem dJ6_numberOfTrailingZeros_0f7a4_48 : decode cJ6_numberOfTrailingZeros_0f7a4 48 = .ok (.istore_n 0, 1) := by decide +kernel
theorem dJ6_numberOfTrailingZeros_0f7a4_49 : decode cJ6_numberOfTrailingZeros_0f7a4 49 = .ok (.iload_n 0, 1) := by decide +kernel
theorem dJ6_numberOfTrailingZeros_0f7a4_50 : decode cJ6_numberOfTrailingZeros_0f7a4 50 = .ok (.bipush 16, 2) := by decide +kernel
theorem dJ6_numberOfTrailingZeros_0f7a4_52 : decode cJ6_numberOfTrailingZeros_0f7a4 52 = .ok (.if_icmp .le 10, 3) := by decide +kernel
theorem dJ6_numberOfTrailingZeros_0f7a4_55 : decode cJ6_numberOfTrailingZeros_0f7a4 55 = .ok (.iinc 1 4, 3) := by decide +kernel
theorem dJ6_numberOfTrailingZeros_0f7a4_58 : decode cJ6_numberOfTrailingZeros_0f7a4 58 = .ok (.iload_n 0, 1) := by decide +kernel
theorem dJ6_numberOfTrailingZeros_0f7a4_59 : decode cJ6_numberOfTrailingZeros_0f7a4 59 = .ok (.iconst 4, 1) := by decide +kernel
theorem dJ6_numberOfTrailingZeros_0f7a4_60 : decode cJ6_numberOfTrailingZeros_0f7a4 60 = .ok (.iushr, 1) := by decide +kernel
theorem dJ6_numberOfTrailingZeros_0f7a4_61 : decode cJ6_numberOfTrailingZeros_0f7a4 61 = .ok (.istore_n 0, 1) := by decide +kernel
theorem dJ6_numberOfTrailingZeros_0f7a4_62 : decode cJ6_numberOfTrailingZeros_0f7a4 62 = .ok (.iload_n 0, 1) := by decide +kernel
theorem dJ6_numberOfTrailingZeros_0f7a4_63 : decode cJ6_numberOfTrailingZeros_0f7a4 63 = .ok (.iconst 4, 1) := by decide +kernel
theorem dJ6_numberOfTrailingZeros_0f7a4_64 : decode cJ6_numberOfTrailingZeros_0f7a4 64 = .ok (.if_icmp .le 10, 3) := by decide +kernel
theorem dJ6_numberOfTrailingZeros_0f7a4_67 : decode cJ6_numberOfTrailingZeros_0f7a4 67 = .ok (.iinc 1 2, 3) := by decide +kernel
theorem dJ6_numberOfTrailingZeros_0f7a4_70 : decode cJ6_numberOfTrailingZeros_0f7a4 70 = .ok (.iload_n 0, 1) := by decide +kernel
theorem dJ6_numberOfTrailingZeros_0f7a4_71 : decode cJ6_numberOfTrailingZeros_0f7a4 71 = .ok (.iconst 2, 1) := by decide +kernel
theorem dJ6_numberOfTrailingZeros_0f7a4_72 : decode cJ6_numberOfTrailingZeros_0f7a4 72 = .ok (.iushr, 1) := by decide +kernel
theorem dJ6_numberOfTrailingZeros_0f7a4_73 : decode cJ6_numberOfTrailingZeros_0f7a4 73 = .ok (.istore_n 0, 1) := by decide +kernel
theorem dJ6_numberOfTrailingZeros_0f7a4_74 : decode cJ6_numberOfTrailingZeros_0f7a4 74 = .ok (.iload_n 1, 1) := by decide +kernel
theorem dJ6_numberOfTrailingZeros_0f7a4_75 : decode cJ6_numberOfTrailingZeros_0f7a4 75 = .ok (.iload_n 0, 1) := by decide +kernel
theorem dJ6_numberOfTrailingZeros_0f7a4_76 : decode cJ6_numberOfTrailingZeros_0f7a4 76 = .ok (.iconst 1, 1) := by decide +kernel
theorem dJ6_numberOfTrailingZeros_0f7a4_77 : decode cJ6_numberOfTrailingZeros_0f7a4 77 = .ok (.iushr, 1) := by decide +kernel
theorem dJ6_numberOfTrailingZeros_0f7a4_78 : decode cJ6_numberOfTrailingZeros_0f7a4 78 = .ok (.iadd, 1) := by decide +kernel
theorem dJ6_numberOfTrailingZeros_0f7a4_79 : decode cJ6_numberOfTrailingZeros_0f7a4 79 = .ok (.ireturn, 1) := by decide +kernel
theorem dJ13_numberOfTrailingZeros_95d88_0 : decode cJ13_numberOfTrailingZeros_95d88 0 = .ok (.lload_n 0, 1) := by decide +kernel
theorem dJ13_numberOfTrailingZeros_95d88_1 : decode cJ13_numberOfTrailingZeros_95d88 1 = .ok (.l2i, 1) := by decide +kernel
theorem dJ13_numberOfTrailingZeros_95d88_2 : decode cJ13_numberOfTrailingZeros_95d88 2 = .ok (.istore_n 2, 1) := by decide +kernel
theorem dJ13_numberOfTrailingZeros_95d88_3 : decode cJ13_numberOfTrailingZeros_95d88 3 = .ok (.iload_n 2, 1) := by decide +kernel
theorem dJ13_numberOfTrailingZeros_95d88_4 : decode cJ13_numberOfTrailingZeros_95d88 4 = .ok (.ifCond .ne 17, 3) := by decide +kernel
theorem dJ13_numberOfTrailingZeros_95d88_7 : decode cJ13_numberOfTrailingZeros_95d88 7 = .ok (.bipush 32, 2) := by decide +kernel
theorem dJ13_numberOfTrailingZeros_95d88_9 : decode cJ13_numberOfTrailingZeros_95d88 9 = .ok (.lload_n 0, 1) := by decide +kernel
theorem dJ13_numberOfTrailingZeros_95d88_10 : decode cJ13_numberOfTrailingZeros_95d88 10 = .ok (.bipush 32, 2) := by decide +kernel
theorem dJ13_numberOfTrailingZeros_95d88_12 : decode cJ13_numberOfTrailingZeros_95d88 12 = .ok (.lushr, 1) := by decide +kernel
theorem dJ13_numberOfTrailingZeros_95d88_13 : decode cJ13_numberOfTrailingZeros_95d88 13 = .ok (.l2i, 1) := by decide +kernel
theorem dJ13_numberOfTrailingZeros_95d88_14 : decode cJ13_numberOfTrailingZeros_95d88 14 = .ok (.invokestatic 311, 3) := by decide +kernel
theorem dJ13_numberOfTrailingZeros_95d88_17 : decode cJ13_numberOfTrailingZeros_95d88 17 = .ok (.iadd, 1) := by decide +kernel
theorem dJ13_numberOfTrailingZeros_95d88_18 : decode cJ13_numberOfTrailingZeros_95d88 18 = .ok (.goto 7, 3) := by decide +kernel
theorem dJ13_numberOfTrailingZeros_95d88_21 : decode cJ13_numberOfTrailingZeros_95d88 21 = .ok (.iload_n 2, 1) := by decide +kernel
theorem dJ13_numberOfTrailingZeros_95d88_22 : decode cJ13_numberOfTrailingZeros_95d88 22 = .ok (.invokestatic 311, 3) := by decide +kernel
theorem dJ13_numberOfTrailingZeros_95d88_25 : decode cJ13_numberOfTrailingZeros_95d88 25 = .ok (.ireturn, 1) := by decide +kernel
theorem dJ13_bitCount_95d88_0 : decode cJ13_bitCount_95d88 0 = .ok (.lload_n 0, 1) := by decide +kernel
theorem dJ13_bitCount_95d88_1 : decode cJ13_bitCount_95d88 1 = .ok (.lload_n 0, 1) := by decide +kernel
theorem dJ13_bitCount_95d88_2 : decode cJ13_bitCount_95d88 2 = .ok (.iconst 1, 1) := by decide +kernel
theorem dJ13_bitCount_95d88_3 : decode cJ13_bitCount_95d88 3 = .ok (.lushr, 1) := by decide +kernel
theorem dJ13_bitCount_95d88_4 : decode cJ13_bitCount_95d88 4 = .ok (.ldc2_w 314, 3) := by decide +kernel
theorem dJ13_bitCount_95d88_7 : decode cJ13_bitCount_95d88 7 = .ok (.land, 1) := by decide +kernel
theorem dJ13_bitCount_95d88_8 : decode cJ13_bitCount_95d88 8 = .ok (.lsub, 1) := by decide +kernel
theorem dJ13_bitCount_95d88_9 : decode cJ13_bitCount_95d88 9 = .ok (.lstore_n 0, 1) := by decide +kernel
theorem dJ13_bitCount_95d88_10 : decode cJ13_bitCount_95d88 10 = .ok (.lload_n 0, 1) := by decide +kernel
theorem dJ13_bitCount_95d88_11 : decode cJ13_bitCount_95d88 11 = .ok (.ldc2_w 316, 3) := by decide +kernel
theorem dJ13_bitCount_95d88_14 : decode cJ13_bitCount_95d88 14 = .ok (.land, 1) := by decide +kernel
theorem dJ13_bitCount_95d88_15 : decode cJ13_bitCount_95d88 15 = .ok (.lload_n 0, 1) := by decide +kernel
theorem dJ13_bitCount_95d88_16 : decode cJ13_bitCount_95d88 16 = .ok (.iconst 2, 1) := by decide +kernel
theorem dJ13_bitCount_95d88_17 : decode cJ13_bitCount_95d88 17 = .ok (.lushr, 1) := by decide +kernel
theorem dJ13_bitCount_95d88_18 : decode cJ13_bitCount_95d88 18 = .ok (.ldc2_w 316, 3) := by decide +kernel
theorem dJ13_bitCount_95d88_21 : decode cJ13_bitCount_95d88 21 = .ok (.land, 1) := by decide +kernel
theorem dJ13_bitCount_95d88_22 : decode cJ13_bitCount_95d88 22 = .ok (.ladd, 1) := by decide +kernel
theorem dJ13_bitCount_95d88_23 : decode cJ13_bitCount_95d88 23 = .ok (.lstore_n 0, 1) := by decide +kernel
theorem dJ13_bitCount_95d88_24 : decode cJ13_bitCount_95d88 24 = .ok (.lload_n 0, 1) := by decide +kernel
theorem dJ13_bitCount_95d88_25 : decode cJ13_bitCount_95d88 25 = .ok (.lload_n 0, 1) := by decide +kernel
theorem dJ13_bitCount_95d88_26 : decode cJ13_bitCount_95d88 26 = .ok (.iconst 4, 1) := by decide +kernel
theorem dJ13_bitCount_95d88_27 : decode cJ13_bitCount_95d88 27 = .ok (.lushr, 1) := by decide +kernel
theorem dJ13_bitCount_95d88_28 : decode cJ13_bitCount_95d88 28 = .ok (.ladd, 1) := by decide +kernel
theorem dJ13_bitCount_95d88_29 : decode cJ13_bitCount_95d88 29 = .ok (.ldc2_w 318, 3) := by decide +kernel
theorem dJ13_bitCount_95d88_32 : decode cJ13_bitCount_95d88 32 = .ok (.land, 1) := by decide +kernel
theorem dJ13_bitCount_95d88_33 : decode cJ13_bitCount_95d88 33 = .ok (.lstore_n 0, 1) := by decide +kernel
theorem dJ13_bitCount_95d88_34 : decode cJ13_bitCount_95d88 34 = .ok (.lload_n 0, 1) := by decide +kernel
theorem dJ13_bitCount_95d88_35 : decode cJ13_bitCount_95d88 35 = .ok (.lload_n 0, 1) := by decide +kernel
theorem dJ13_bitCount_95d88_36 : decode cJ13_bitCount_95d88 36 = .ok (.bipush 8, 2) := by decide +kernel
theorem dJ13_bitCount_95d88_38 : decode cJ13_bitCount_95d88 38 = .ok (.lushr, 1) := by decide +kernel
theorem dJ13_bitCount_95d88_39 : decode cJ13_bitCount_95d88 39 = .ok (.ladd, 1) := by decide +kernel
theorem dJ13_bitCount_95d88_40 : decode cJ13_bitCount_95d88 40 = .ok (.lstore_n 0, 1) := by decide +kernel
theorem dJ13_bitCount_95d88_41 : decode cJ13_bitCount_95d88 41 = .ok (.lload_n 0, 1) := by decide +kernel
theorem dJ13_bitCount_95d88_42 : decode cJ13_bitCount_95d88 42 = .ok (.lload_n 0, 1) := by decide +kernel
theorem dJ13_bitCount_95d88_43 : decode cJ13_bitCount_95d88 43 = .ok (.bipush 16, 2) := by decide +kernel
theorem dJ13_bitCount_95d88_45 : decode cJ13_bitCount_95d88 45 = .ok (.lushr, 1) := by decide +kernel
theorem dJ13_bitCount_95d88_46 : decode cJ13_bitCount_95d88 46 = .ok (.ladd, 1) := by decide +kernel
theorem dJ13_bitCount_95d88_47 : decode cJ13_bitCount_95d88 47 = .ok (.lstore_n 0, 1) := by decide +kernel
theorem dJ13_bitCount_95d88_48 : decode cJ13_bitCount_95d88 48 = .ok (.lload_n 0, 1) := by decide +kernel
theorem dJ13_bitCount_95d88_49 : decode cJ13_bitCount_95d88 49 = .ok (.lload_n 0, 1) := by decide +kernel
theorem dJ13_bitCount_95d88_50 : decode cJ13_bitCount_95d88 50 = .ok (.bipush 32, 2) := by decide +kernel
theorem dJ13_bitCount_95d88_52 : decode cJ13_bitCount_95d88 52 = .ok (.lushr, 1) := by decide +kernel
theorem dJ13_bitCount_95d88_53 : decode cJ13_bitCount_95d88 53 = .ok (.ladd, 1) := by decide +kernel
theorem dJ13_bitCount_95d88_54 : decode cJ13_bitCount_95d88 54 = .ok (.lstore_n 0, 1) := by decide +kernel
theorem dJ13_bitCount_95d88_55 : decode cJ13_bitCount_95d88 55 = .ok (.lload_n 0, 1) := by decide +kernel
theorem dJ13_bitCount_95d88_56 : decode cJ13_bitCount_95d88 56 = .ok (.l2i, 1) := by decide +kernel
theorem dJ13_bitCount_95d88_57 : decode cJ13_bitCount_95d88 57 = .ok (.bipush 127, 2) := by decide +kernel
theorem dJ13_bitCount_95d88_59 : decode cJ13_bitCount_95d88 59 = .ok (.iand, 1) := by decide +kernel
theorem dJ13_bitCount_95d88_60 : decode cJ13_bitCount_95d88 60 = .ok (.ireturn, 1) := by decide +kernel
theorem dJ9_max_7cf53_0 : decode cJ9_max_7cf53 0 = .ok (.iload_n 0, 1) := by decide +kernel
theorem dJ9_max_7cf53_1 : decode cJ9_max_7cf53 1 = .ok (.iload_n 1, 1) := by decide +kernel
theorem dJ9_max_7cf53_2 : decode cJ9_max_7cf53 2 = .ok (.if_icmp .lt 7, 3) := by decide +kernel
theorem dJ9_max_7cf53_5 : decode cJ9_max_7cf53 5 = .ok (.iload_n 0, 1) := by decide +kernel
theorem dJ9_max_7cf53_6 : decode cJ9_max_7cf53 6 = .ok (.goto 4, 3) := by decide +kernel
