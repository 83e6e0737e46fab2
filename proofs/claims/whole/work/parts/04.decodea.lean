theorem dX0_init_0 : decode cX0_init 0 = .ok (.aload_n 0, 1) := by decide +kernel
theorem dX0_init_1 : decode cX0_init 1 = .ok (.invokespecial 3, 3) := by decide +kernel
theorem dX0_init_4 : decode cX0_init 4 = .ok (.aload_n 0, 1) := by decide +kernel
theorem dX0_init_5 : decode cX0_init 5 = .ok (.bipush 32, 2) := by decide +kernel
theorem dX0_init_7 : decode cX0_init 7 = .ok (.newarray .long, 2) := by decide +kernel
theorem dX0_init_9 : decode cX0_init 9 = .ok (.putfield 9, 3) := by decide +kernel
theorem dX0_init_12 : decode cX0_init 12 = .ok (.return_, 1) := by decide +kernel
theorem dX0_wipe_0 : decode cX0_wipe 0 = .ok (.aload_n 0, 1) := by decide +kernel
theorem dX0_wipe_1 : decode cX0_wipe 1 = .ok (.getfield 9, 3) := by decide +kernel
theorem dX0_wipe_4 : decode cX0_wipe 4 = .ok (.lconst 0, 1) := by decide +kernel
theorem dX0_wipe_5 : decode cX0_wipe 5 = .ok (.invokestatic 15, 3) := by decide +kernel
theorem dX0_wipe_8 : decode cX0_wipe 8 = .ok (.return_, 1) := by decide +kernel
theorem dX0_has_0 : decode cX0_has 0 = .ok (.iload_n 1, 1) := by decide +kernel
theorem dX0_has_1 : decode cX0_has 1 = .ok (.ifCond .lt 35, 3) := by decide +kernel
theorem dX0_has_4 : decode cX0_has 4 = .ok (.iload_n 1, 1) := by decide +kernel
theorem dX0_has_5 : decode cX0_has 5 = .ok (.sipush 2000, 3) := by decide +kernel
theorem dX0_has_8 : decode cX0_has 8 = .ok (.if_icmp .gt 28, 3) := by decide +kernel
theorem dX0_has_11 : decode cX0_has 11 = .ok (.aload_n 0, 1) := by decide +kernel
theorem dX0_has_12 : decode cX0_has 12 = .ok (.getfield 9, 3) := by decide +kernel
theorem dX0_has_15 : decode cX0_has 15 = .ok (.iload_n 1, 1) := by decide +kernel
theorem dX0_has_16 : decode cX0_has 16 = .ok (.bipush 64, 2) := by decide +kernel
theorem dX0_has_18 : decode cX0_has 18 = .ok (.idiv, 1) := by decide +kernel
theorem dX0_has_19 : decode cX0_has 19 = .ok (.laload, 1) := by decide +kernel
theorem dX0_has_20 : decode cX0_has 20 = .ok (.iload_n 1, 1) := by decide +kernel
theorem dX0_has_21 : decode cX0_has 21 = .ok (.bipush 64, 2) := by decide +kernel
theorem dX0_has_23 : decode cX0_has 23 = .ok (.irem, 1) := by decide +kernel
theorem dX0_has_24 : decode cX0_has 24 = .ok (.lshr, 1) := by decide +kernel
theorem dX0_has_25 : decode cX0_has 25 = .ok (.lconst 1, 1) := by decide +kernel
theorem dX0_has_26 : decode cX0_has 26 = .ok (.land, 1) := by decide +kernel
theorem dX0_has_27 : decode cX0_has 27 = .ok (.lconst 0, 1) := by decide +kernel
theorem dX0_has_28 : decode cX0_has 28 = .ok (.lcmp, 1) := by decide +kernel
theorem dX0_has_29 : decode cX0_has 29 = .ok (.ifCond .eq 7, 3) := by decide +kernel
theorem dX0_has_32 : decode cX0_has 32 = .ok (.iconst 1, 1) := by decide +kernel
theorem dX0_has_33 : decode cX0_has 33 = .ok (.goto 4, 3) := by decide +kernel
theorem dX0_has_36 : decode cX0_has 36 = .ok (.iconst 0, 1) := by decide +kernel
theorem dX0_has_37 : decode cX0_has 37 = .ok (.ireturn, 1) := by decide +kernel
theorem dX0_put_0 : decode cX0_put 0 = .ok (.iload_n 1, 1) := by decide +kernel
theorem dX0_put_1 : decode cX0_put 1 = .ok (.ifCond .lt 28, 3) := by decide +kernel
theorem dX0_put_4 : decode cX0_put 4 = .ok (.iload_n 1, 1) := by decide +kernel
theorem dX0_put_5 : decode cX0_put 5 = .ok (.sipush 2000, 3) := by decide +kernel
theorem dX0_put_8 : decode cX0_put 8 = .ok (.if_icmp .gt 21, 3) := by decide +kernel
theorem dX0_put_11 : decode cX0_put 11 = .ok (.aload_n 0, 1) := by decide +kernel
theorem dX0_put_12 : decode cX0_put 12 = .ok (.getfield 9, 3) := by decide +kernel
theorem dX0_put_15 : decode cX0_put 15 = .ok (.iload_n 1, 1) := by decide +kernel
theorem dX0_put_16 : decode cX0_put 16 = .ok (.bipush 64, 2) := by decide +kernel
theorem dX0_put_18 : decode cX0_put 18 = .ok (.idiv, 1) := by decide +kernel
theorem dX0_put_19 : decode cX0_put 19 = .ok (.dup2, 1) := by decide +kernel
theorem dX0_put_20 : decode cX0_put 20 = .ok (.laload, 1) := by decide +kernel
theorem dX0_put_21 : decode cX0_put 21 = .ok (.lconst 1, 1) := by decide +kernel
theorem dX0_put_22 : decode cX0_put 22 = .ok (.iload_n 1, 1) := by decide +kernel
theorem dX0_put_23 : decode cX0_put 23 = .ok (.bipush 64, 2) := by decide +kernel
theorem dX0_put_25 : decode cX0_put 25 = .ok (.irem, 1) := by decide +kernel
theorem dX0_put_26 : decode cX0_put 26 = .ok (.lshl, 1) := by decide +kernel
theorem dX0_put_27 : decode cX0_put 27 = .ok (.lor, 1) := by decide +kernel
theorem dX0_put_28 : decode cX0_put 28 = .ok (.lastore, 1) := by decide +kernel
theorem dX0_put_29 : decode cX0_put 29 = .ok (.return_, 1) := by decide +kernel
theorem dX0_hold_0 : decode cX0_hold 0 = .ok (.aload_n 0, 1) := by decide +kernel
theorem dX0_hold_1 : decode cX0_hold 1 = .ok (.invokevirtual 21, 3) := by decide +kernel
theorem dX0_hold_4 : decode cX0_hold 4 = .ok (.iconst 0, 1) := by decide +kernel
theorem dX0_hold_5 : decode cX0_hold 5 = .ok (.istore_n 2, 1) := by decide +kernel
theorem dX0_hold_6 : decode cX0_hold 6 = .ok (.iload_n 2, 1) := by decide +kernel
theorem dX0_hold_7 : decode cX0_hold 7 = .ok (.aload_n 1, 1) := by decide +kernel
theorem dX0_hold_8 : decode cX0_hold 8 = .ok (.getfield 24, 3) := by decide +kernel
theorem dX0_hold_11 : decode cX0_hold 11 = .ok (.if_icmp .ge 18, 3) := by decide +kernel
theorem dX0_hold_14 : decode cX0_hold 14 = .ok (.aload_n 0, 1) := by decide +kernel
theorem dX0_hold_15 : decode cX0_hold 15 = .ok (.aload_n 1, 1) := by decide +kernel
theorem dX0_hold_16 : decode cX0_hold 16 = .ok (.iload_n 2, 1) := by decide +kernel
theorem dX0_hold_17 : decode cX0_hold 17 = .ok (.invokevirtual 30, 3) := by decide +kernel
theorem dX0_hold_20 : decode cX0_hold 20 = .ok (.invokevirtual 34, 3) := by decide +kernel
theorem dX0_hold_23 : decode cX0_hold 23 = .ok (.iinc 2 1, 3) := by decide +kernel
theorem dX0_hold_26 : decode cX0_hold 26 = .ok (.goto (-20), 3) := by decide +kernel
theorem dX0_hold_29 : decode cX0_hold 29 = .ok (.return_, 1) := by decide +kernel
theorem dX0_ones_0 : decode cX0_ones 0 = .ok (.iconst 0, 1) := by decide +kernel
theorem dX0_ones_1 : decode cX0_ones 1 = .ok (.istore_n 1, 1) := by decide +kernel
theorem dX0_ones_2 : decode cX0_ones 2 = .ok (.iconst 0, 1) := by decide +kernel
theorem dX0_ones_3 : decode cX0_ones 3 = .ok (.istore_n 2, 1) := by decide +kernel
theorem dX0_ones_4 : decode cX0_ones 4 = .ok (.iload_n 2, 1) := by decide +kernel
theorem dX0_ones_5 : decode cX0_ones 5 = .ok (.bipush 32, 2) := by decide +kernel
theorem dX0_ones_7 : decode cX0_ones 7 = .ok (.if_icmp .ge 21, 3) := by decide +kernel
theorem dX0_ones_10 : decode cX0_ones 10 = .ok (.iload_n 1, 1) := by decide +kernel
theorem dX0_ones_11 : decode cX0_ones 11 = .ok (.aload_n 0, 1) := by decide +kernel
theorem dX0_ones_12 : decode cX0_ones 12 = .ok (.getfield 9, 3) := by decide +kernel
theorem dX0_ones_15 : decode cX0_ones 15 = .ok (.iload_n 2, 1) := by decide +kernel
theorem dX0_ones_16 : decode cX0_ones 16 = .ok (.laload, 1) := by decide +kernel
theorem dX0_ones_17 : decode cX0_ones 17 = .ok (.invokestatic 38, 3) := by decide +kernel
theorem dX0_ones_20 : decode cX0_ones 20 = .ok (.iadd, 1) := by decide +kernel
theorem dX0_ones_21 : decode cX0_ones 21 = .ok (.istore_n 1, 1) := by decide +kernel
theorem dX0_ones_22 : decode cX0_ones 22 = .ok (.iinc 2 1, 3) := by decide +kernel
theorem dX0_ones_25 : decode cX0_ones 25 = .ok (.goto (-21), 3) := by decide +kernel
theorem dX0_ones_28 : decode cX0_ones 28 = .ok (.iload_n 1, 1) := by decide +kernel
theorem dX0_ones_29 : decode cX0_ones 29 = .ok (.ireturn, 1) := by decide +kernel
theorem dX0_meets_0 : decode cX0_meets 0 = .ok (.iconst 0, 1) := by decide +kernel
theorem dX0_meets_1 : decode cX0_meets 1 = .ok (.istore_n 2, 1) := by decide +kernel
theorem dX0_meets_2 : decode cX0_meets 2 = .ok (.iload_n 2, 1) := by decide +kernel
theorem dX0_meets_3 : decode cX0_meets 3 = .ok (.bipush 32, 2) := by decide +kernel
theorem dX0_meets_5 : decode cX0_meets 5 = .ok (.if_icmp .ge 29, 3) := by decide +kernel
theorem dX0_meets_8 : decode cX0_meets 8 = .ok (.aload_n 0, 1) := by decide +kernel
theorem dX0_meets_9 : decode cX0_meets 9 = .ok (.getfield 9, 3) := by decide +kernel
theorem dX0_meets_12 : decode cX0_meets 12 = .ok (.iload_n 2, 1) := by decide +kernel
theorem dX0_meets_13 : decode cX0_meets 13 = .ok (.laload, 1) := by decide +kernel
theorem dX0_meets_14 : decode cX0_meets 14 = .ok (.aload_n 1, 1) := by decide +kernel
theorem dX0_meets_15 : decode cX0_meets 15 = .ok (.getfield 9, 3) := by decide +kernel
theorem dX0_meets_18 : decode cX0_meets 18 = .ok (.iload_n 2, 1) := by decide +kernel
theorem dX0_meets_19 : decode cX0_meets 19 = .ok (.laload, 1) := by decide +kernel
theorem dX0_meets_20 : decode cX0_meets 20 = .ok (.land, 1) := by decide +kernel
theorem dX0_meets_21 : decode cX0_meets 21 = .ok (.lconst 0, 1) := by decide +kernel
theorem dX0_meets_22 : decode cX0_meets 22 = .ok (.lcmp, 1) := by decide +kernel
theorem dX0_meets_23 : decode cX0_meets 23 = .ok (.ifCond .eq 5, 3) := by decide +kernel
theorem dX0_meets_26 : decode cX0_meets 26 = .ok (.iconst 1, 1) := by decide +kernel
theorem dX0_meets_27 : decode cX0_meets 27 = .ok (.ireturn, 1) := by decide +kernel
theorem dX0_meets_28 : decode cX0_meets 28 = .ok (.iinc 2 1, 3) := by decide +kernel
theorem dX0_meets_31 : decode cX0_meets 31 = .ok (.goto (-29), 3) := by decide +kernel
theorem dX0_meets_34 : decode cX0_meets 34 = .ok (.iconst 0, 1) := by decide +kernel
theorem dX0_meets_35 : decode cX0_meets 35 = .ok (.ireturn, 1) := by decide +kernel
theorem dX0_spillInto_0 : decode cX0_spillInto 0 = .ok (.aload_n 1, 1) := by decide +kernel
theorem dX0_spillInto_1 : decode cX0_spillInto 1 = .ok (.invokevirtual 44, 3) := by decide +kernel
theorem dX0_spillInto_4 : decode cX0_spillInto 4 = .ok (.iconst 0, 1) := by decide +kernel
theorem dX0_spillInto_5 : decode cX0_spillInto 5 = .ok (.istore_n 2, 1) := by decide +kernel
theorem dX0_spillInto_6 : decode cX0_spillInto 6 = .ok (.iload_n 2, 1) := by decide +kernel
theorem dX0_spillInto_7 : decode cX0_spillInto 7 = .ok (.bipush 32, 2) := by decide +kernel
theorem dX0_spillInto_9 : decode cX0_spillInto 9 = .ok (.if_icmp .ge 57, 3) := by decide +kernel
theorem dX0_spillInto_12 : decode cX0_spillInto 12 = .ok (.aload_n 0, 1) := by decide +kernel
theorem dX0_spillInto_13 : decode cX0_spillInto 13 = .ok (.getfield 9, 3) := by decide +kernel
theorem dX0_spillInto_16 : decode cX0_spillInto 16 = .ok (.iload_n 2, 1) := by decide +kernel
theorem dX0_spillInto_17 : decode cX0_spillInto 17 = .ok (.laload, 1) := by decide +kernel
theorem dX0_spillInto_18 : decode cX0_spillInto 18 = .ok (.lstore_n 3, 1) := by decide +kernel
theorem dX0_spillInto_19 : decode cX0_spillInto 19 = .ok (.iconst 0, 1) := by decide +kernel
theorem dX0_spillInto_20 : decode cX0_spillInto 20 = .ok (.istore 5, 2) := by decide +kernel
theorem dX0_spillInto_22 : decode cX0_spillInto 22 = .ok (.iload 5, 2) := by decide +kernel
theorem dX0_spillInto_24 : decode cX0_spillInto 24 = .ok (.bipush 64, 2) := by decide +kernel
theorem dX0_spillInto_26 : decode cX0_spillInto 26 = .ok (.if_icmp .ge 34, 3) := by decide +kernel
theorem dX0_spillInto_29 : decode cX0_spillInto 29 = .ok (.lload_n 3, 1) := by decide +kernel
theorem dX0_spillInto_30 : decode cX0_spillInto 30 = .ok (.lconst 0, 1) := by decide +kernel
theorem dX0_spillInto_31 : decode cX0_spillInto 31 = .ok (.lcmp, 1) := by decide +kernel
theorem dX0_spillInto_32 : decode cX0_spillInto 32 = .ok (.ifCond .eq 28, 3) := by decide +kernel
theorem dX0_spillInto_35 : decode cX0_spillInto 35 = .ok (.aload_n 1, 1) := by decide +kernel
theorem dX0_spillInto_36 : decode cX0_spillInto 36 = .ok (.iload_n 2, 1) := by decide +kernel
theorem dX0_spillInto_37 : decode cX0_spillInto 37 = .ok (.bipush 64, 2) := by decide +kernel
theorem dX0_spillInto_39 : decode cX0_spillInto 39 = .ok (.imul, 1) := by decide +kernel
theorem dX0_spillInto_40 : decode cX0_spillInto 40 = .ok (.lload_n 3, 1) := by decide +kernel
theorem dX0_spillInto_41 : decode cX0_spillInto 41 = .ok (.invokestatic 47, 3) := by decide +kernel
theorem dX0_spillInto_44 : decode cX0_spillInto 44 = .ok (.iadd, 1) := by decide +kernel
theorem dX0_spillInto_45 : decode cX0_spillInto 45 = .ok (.invokevirtual 50, 3) := by decide +kernel
theorem dX0_spillInto_48 : decode cX0_spillInto 48 = .ok (.lload_n 3, 1) := by decide +kernel
theorem dX0_spillInto_49 : decode cX0_spillInto 49 = .ok (.lload_n 3, 1) := by decide +kernel
theorem dX0_spillInto_50 : decode cX0_spillInto 50 = .ok (.lconst 1, 1) := by decide +kernel
theorem dX0_spillInto_51 : decode cX0_spillInto 51 = .ok (.lsub, 1) := by decide +kernel
theorem dX0_spillInto_52 : decode cX0_spillInto 52 = .ok (.land, 1) := by decide +kernel
theorem dX0_spillInto_53 : decode cX0_spillInto 53 = .ok (.lstore_n 3, 1) := by decide +kernel
theorem dX0_spillInto_54 : decode cX0_spillInto 54 = .ok (.iinc 5 1, 3) := by decide +kernel
theorem dX0_spillInto_57 : decode cX0_spillInto 57 = .ok (.goto (-35), 3) := by decide +kernel
theorem dX0_spillInto_60 : decode cX0_spillInto 60 = .ok (.iinc 2 1, 3) := by decide +kernel
theorem dX0_spillInto_63 : decode cX0_spillInto 63 = .ok (.goto (-57), 3) := by decide +kernel
theorem dX0_spillInto_66 : decode cX0_spillInto 66 = .ok (.return_, 1) := by decide +kernel
theorem dX1_init_0 : decode cX1_init 0 = .ok (.aload_n 0, 1) := by decide +kernel
theorem dX1_init_1 : decode cX1_init 1 = .ok (.invokespecial 3, 3) := by decide +kernel
theorem dX1_init_4 : decode cX1_init 4 = .ok (.aload_n 0, 1) := by decide +kernel
theorem dX1_init_5 : decode cX1_init 5 = .ok (.bipush 24, 2) := by decide +kernel
theorem dX1_init_7 : decode cX1_init 7 = .ok (.newarray .int, 2) := by decide +kernel
theorem dX1_init_9 : decode cX1_init 9 = .ok (.putfield 9, 3) := by decide +kernel
theorem dX1_init_12 : decode cX1_init 12 = .ok (.aload_n 0, 1) := by decide +kernel
theorem dX1_init_13 : decode cX1_init 13 = .ok (.iconst 0, 1) := by decide +kernel
theorem dX1_init_14 : decode cX1_init 14 = .ok (.putfield 15, 3) := by decide +kernel
theorem dX1_init_17 : decode cX1_init 17 = .ok (.return_, 1) := by decide +kernel
theorem dX1_at_0 : decode cX1_at 0 = .ok (.iload_n 1, 1) := by decide +kernel
theorem dX1_at_1 : decode cX1_at 1 = .ok (.ifCond .lt 20, 3) := by decide +kernel
theorem dX1_at_4 : decode cX1_at 4 = .ok (.iload_n 1, 1) := by decide +kernel
theorem dX1_at_5 : decode cX1_at 5 = .ok (.aload_n 0, 1) := by decide +kernel
theorem dX1_at_6 : decode cX1_at 6 = .ok (.getfield 15, 3) := by decide +kernel
theorem dX1_at_9 : decode cX1_at 9 = .ok (.if_icmp .ge 12, 3) := by decide +kernel
theorem dX1_at_12 : decode cX1_at 12 = .ok (.aload_n 0, 1) := by decide +kernel
theorem dX1_at_13 : decode cX1_at 13 = .ok (.getfield 9, 3) := by decide +kernel
theorem dX1_at_16 : decode cX1_at 16 = .ok (.iload_n 1, 1) := by decide +kernel
theorem dX1_at_17 : decode cX1_at 17 = .ok (.iaload, 1) := by decide +kernel
theorem dX1_at_18 : decode cX1_at 18 = .ok (.goto 4, 3) := by decide +kernel
theorem dX1_at_21 : decode cX1_at 21 = .ok (.iconst (-1), 1) := by decide +kernel
theorem dX1_at_22 : decode cX1_at 22 = .ok (.ireturn, 1) := by decide +kernel
theorem dX1_around_0 : decode cX1_around 0 = .ok (.iload_n 1, 1) := by decide +kernel
theorem dX1_around_1 : decode cX1_around 1 = .ok (.aload_n 0, 1) := by decide +kernel
theorem dX1_around_2 : decode cX1_around 2 = .ok (.getfield 15, 3) := by decide +kernel
theorem dX1_around_5 : decode cX1_around 5 = .ok (.if_icmp .ge 11, 3) := by decide +kernel
theorem dX1_around_8 : decode cX1_around 8 = .ok (.aload_n 0, 1) := by decide +kernel
theorem dX1_around_9 : decode cX1_around 9 = .ok (.iload_n 1, 1) := by decide +kernel
theorem dX1_around_10 : decode cX1_around 10 = .ok (.invokevirtual 19, 3) := by decide +kernel
theorem dX1_around_13 : decode cX1_around 13 = .ok (.goto 13, 3) := by decide +kernel
theorem dX1_around_16 : decode cX1_around 16 = .ok (.aload_n 0, 1) := by decide +kernel
theorem dX1_around_17 : decode cX1_around 17 = .ok (.iload_n 1, 1) := by decide +kernel
theorem dX1_around_18 : decode cX1_around 18 = .ok (.aload_n 0, 1) := by decide +kernel
theorem dX1_around_19 : decode cX1_around 19 = .ok (.getfield 15, 3) := by decide +kernel
theorem dX1_around_22 : decode cX1_around 22 = .ok (.isub, 1) := by decide +kernel
theorem dX1_around_23 : decode cX1_around 23 = .ok (.invokevirtual 19, 3) := by decide +kernel
theorem dX1_around_26 : decode cX1_around 26 = .ok (.ireturn, 1) := by decide +kernel
theorem dX1_push_0 : decode cX1_push 0 = .ok (.aload_n 0, 1) := by decide +kernel
theorem dX1_push_1 : decode cX1_push 1 = .ok (.getfield 15, 3) := by decide +kernel
theorem dX1_push_4 : decode cX1_push 4 = .ok (.bipush 24, 2) := by decide +kernel
theorem dX1_push_6 : decode cX1_push 6 = .ok (.if_icmp .ge 23, 3) := by decide +kernel
theorem dX1_push_9 : decode cX1_push 9 = .ok (.aload_n 0, 1) := by decide +kernel
theorem dX1_push_10 : decode cX1_push 10 = .ok (.getfield 9, 3) := by decide +kernel
theorem dX1_push_13 : decode cX1_push 13 = .ok (.aload_n 0, 1) := by decide +kernel
theorem dX1_push_14 : decode cX1_push 14 = .ok (.getfield 15, 3) := by decide +kernel
theorem dX1_push_17 : decode cX1_push 17 = .ok (.iload_n 1, 1) := by decide +kernel
theorem dX1_push_18 : decode cX1_push 18 = .ok (.iastore, 1) := by decide +kernel
theorem dX1_push_19 : decode cX1_push 19 = .ok (.aload_n 0, 1) := by decide +kernel
theorem dX1_push_20 : decode cX1_push 20 = .ok (.dup, 1) := by decide +kernel
theorem dX1_push_21 : decode cX1_push 21 = .ok (.getfield 15, 3) := by decide +kernel
theorem dX1_push_24 : decode cX1_push 24 = .ok (.iconst 1, 1) := by decide +kernel
theorem dX1_push_25 : decode cX1_push 25 = .ok (.iadd, 1) := by decide +kernel
theorem dX1_push_26 : decode cX1_push 26 = .ok (.putfield 15, 3) := by decide +kernel
theorem dX1_push_29 : decode cX1_push 29 = .ok (.return_, 1) := by decide +kernel
theorem dX1_measure_0 : decode cX1_measure 0 = .ok (.aload_n 0, 1) := by decide +kernel
theorem dX1_measure_1 : decode cX1_measure 1 = .ok (.iconst 0, 1) := by decide +kernel
theorem dX1_measure_2 : decode cX1_measure 2 = .ok (.putfield 15, 3) := by decide +kernel
theorem dX1_measure_5 : decode cX1_measure 5 = .ok (.iconst 1, 1) := by decide +kernel
theorem dX1_measure_6 : decode cX1_measure 6 = .ok (.istore_n 3, 1) := by decide +kernel
theorem dX1_measure_7 : decode cX1_measure 7 = .ok (.iload_n 3, 1) := by decide +kernel
theorem dX1_measure_8 : decode cX1_measure 8 = .ok (.aload_n 1, 1) := by decide +kernel
theorem dX1_measure_9 : decode cX1_measure 9 = .ok (.getfield 23, 3) := by decide +kernel
theorem dX1_measure_12 : decode cX1_measure 12 = .ok (.if_icmp .ge 26, 3) := by decide +kernel
theorem dX1_measure_15 : decode cX1_measure 15 = .ok (.aload_n 0, 1) := by decide +kernel
theorem dX1_measure_16 : decode cX1_measure 16 = .ok (.aload_n 1, 1) := by decide +kernel
theorem dX1_measure_17 : decode cX1_measure 17 = .ok (.iload_n 3, 1) := by decide +kernel
theorem dX1_measure_18 : decode cX1_measure 18 = .ok (.invokevirtual 26, 3) := by decide +kernel
theorem dX1_measure_21 : decode cX1_measure 21 = .ok (.aload_n 1, 1) := by decide +kernel
theorem dX1_measure_22 : decode cX1_measure 22 = .ok (.iload_n 3, 1) := by decide +kernel
theorem dX1_measure_23 : decode cX1_measure 23 = .ok (.iconst 1, 1) := by decide +kernel
theorem dX1_measure_24 : decode cX1_measure 24 = .ok (.isub, 1) := by decide +kernel
theorem dX1_measure_25 : decode cX1_measure 25 = .ok (.invokevirtual 26, 3) := by decide +kernel
theorem dX1_measure_28 : decode cX1_measure 28 = .ok (.isub, 1) := by decide +kernel
theorem dX1_measure_29 : decode cX1_measure 29 = .ok (.invokevirtual 27, 3) := by decide +kernel
theorem dX1_measure_32 : decode cX1_measure 32 = .ok (.iinc 3 1, 3) := by decide +kernel
theorem dX1_measure_35 : decode cX1_measure 35 = .ok (.goto (-28), 3) := by decide +kernel
theorem dX1_measure_38 : decode cX1_measure 38 = .ok (.aload_n 0, 1) := by decide +kernel
theorem dX1_measure_39 : decode cX1_measure 39 = .ok (.iload_n 2, 1) := by decide +kernel
theorem dX1_measure_40 : decode cX1_measure 40 = .ok (.aload_n 1, 1) := by decide +kernel
theorem dX1_measure_41 : decode cX1_measure 41 = .ok (.invokevirtual 31, 3) := by decide +kernel
theorem dX1_measure_44 : decode cX1_measure 44 = .ok (.isub, 1) := by decide +kernel
theorem dX1_measure_45 : decode cX1_measure 45 = .ok (.invokevirtual 27, 3) := by decide +kernel
theorem dX1_measure_48 : decode cX1_measure 48 = .ok (.return_, 1) := by decide +kernel
theorem dX1_reverse_0 : decode cX1_reverse 0 = .ok (.iconst 0, 1) := by decide +kernel
theorem dX1_reverse_1 : decode cX1_reverse 1 = .ok (.istore_n 1, 1) := by decide +kernel
theorem dX1_reverse_2 : decode cX1_reverse 2 = .ok (.aload_n 0, 1) := by decide +kernel
theorem dX1_reverse_3 : decode cX1_reverse 3 = .ok (.getfield 15, 3) := by decide +kernel
theorem dX1_reverse_6 : decode cX1_reverse 6 = .ok (.iconst 1, 1) := by decide +kernel
theorem dX1_reverse_7 : decode cX1_reverse 7 = .ok (.isub, 1) := by decide +kernel
theorem dX1_reverse_8 : decode cX1_reverse 8 = .ok (.istore_n 2, 1) := by decide +kernel
theorem dX1_reverse_9 : decode cX1_reverse 9 = .ok (.iload_n 1, 1) := by decide +kernel
theorem dX1_reverse_10 : decode cX1_reverse 10 = .ok (.iload_n 2, 1) := by decide +kernel
theorem dX1_reverse_11 : decode cX1_reverse 11 = .ok (.if_icmp .ge 38, 3) := by decide +kernel
theorem dX1_reverse_14 : decode cX1_reverse 14 = .ok (.aload_n 0, 1) := by decide +kernel
theorem dX1_reverse_15 : decode cX1_reverse 15 = .ok (.getfield 9, 3) := by decide +kernel
theorem dX1_reverse_18 : decode cX1_reverse 18 = .ok (.iload_n 1, 1) := by decide +kernel
theorem dX1_reverse_19 : decode cX1_reverse 19 = .ok (.iaload, 1) := by decide +kernel
theorem dX1_reverse_20 : decode cX1_reverse 20 = .ok (.istore_n 3, 1) := by decide +kernel
theorem dX1_reverse_21 : decode cX1_reverse 21 = .ok (.aload_n 0, 1) := by decide +kernel
theorem dX1_reverse_22 : decode cX1_reverse 22 = .ok (.getfield 9, 3) := by decide +kernel
theorem dX1_reverse_25 : decode cX1_reverse 25 = .ok (.iload_n 1, 1) := by decide +kernel
theorem dX1_reverse_26 : decode cX1_reverse 26 = .ok (.aload_n 0, 1) := by decide +kernel
theorem dX1_reverse_27 : decode cX1_reverse 27 = .ok (.getfield 9, 3) := by decide +kernel
theorem dX1_reverse_30 : decode cX1_reverse 30 = .ok (.iload_n 2, 1) := by decide +kernel
theorem dX1_reverse_31 : decode cX1_reverse 31 = .ok (.iaload, 1) := by decide +kernel
theorem dX1_reverse_32 : decode cX1_reverse 32 = .ok (.iastore, 1) := by decide +kernel
theorem dX1_reverse_33 : decode cX1_reverse 33 = .ok (.aload_n 0, 1) := by decide +kernel
theorem dX1_reverse_34 : decode cX1_reverse 34 = .ok (.getfield 9, 3) := by decide +kernel
theorem dX1_reverse_37 : decode cX1_reverse 37 = .ok (.iload_n 2, 1) := by decide +kernel
theorem dX1_reverse_38 : decode cX1_reverse 38 = .ok (.iload_n 3, 1) := by decide +kernel
theorem dX1_reverse_39 : decode cX1_reverse 39 = .ok (.iastore, 1) := by decide +kernel
theorem dX1_reverse_40 : decode cX1_reverse 40 = .ok (.iinc 1 1, 3) := by decide +kernel
theorem dX1_reverse_43 : decode cX1_reverse 43 = .ok (.iinc 2 (-1), 3) := by decide +kernel
theorem dX1_reverse_46 : decode cX1_reverse 46 = .ok (.goto (-37), 3) := by decide +kernel
theorem dX1_reverse_49 : decode cX1_reverse 49 = .ok (.return_, 1) := by decide +kernel
theorem dX1_mayComeBefore_0 : decode cX1_mayComeBefore 0 = .ok (.aload_n 1, 1) := by decide +kernel
theorem dX1_mayComeBefore_1 : decode cX1_mayComeBefore 1 = .ok (.iconst 0, 1) := by decide +kernel
theorem dX1_mayComeBefore_2 : decode cX1_mayComeBefore 2 = .ok (.invokevirtual 19, 3) := by decide +kernel
theorem dX1_mayComeBefore_5 : decode cX1_mayComeBefore 5 = .ok (.istore_n 2, 1) := by decide +kernel
theorem dX1_mayComeBefore_6 : decode cX1_mayComeBefore 6 = .ok (.aload_n 1, 1) := by decide +kernel
theorem dX1_mayComeBefore_7 : decode cX1_mayComeBefore 7 = .ok (.iconst 1, 1) := by decide +kernel
theorem dX1_mayComeBefore_8 : decode cX1_mayComeBefore 8 = .ok (.invokevirtual 35, 3) := by decide +kernel
theorem dX1_mayComeBefore_11 : decode cX1_mayComeBefore 11 = .ok (.istore_n 3, 1) := by decide +kernel
theorem dX1_mayComeBefore_12 : decode cX1_mayComeBefore 12 = .ok (.iconst 0, 1) := by decide +kernel
theorem dX1_mayComeBefore_13 : decode cX1_mayComeBefore 13 = .ok (.istore 4, 2) := by decide +kernel
theorem dX1_mayComeBefore_15 : decode cX1_mayComeBefore 15 = .ok (.iload 4, 2) := by decide +kernel
theorem dX1_mayComeBefore_17 : decode cX1_mayComeBefore 17 = .ok (.aload_n 0, 1) := by decide +kernel
theorem dX1_mayComeBefore_18 : decode cX1_mayComeBefore 18 = .ok (.getfield 15, 3) := by decide +kernel
theorem dX1_mayComeBefore_21 : decode cX1_mayComeBefore 21 = .ok (.if_icmp .ge 45, 3) := by decide +kernel
theorem dX1_mayComeBefore_24 : decode cX1_mayComeBefore 24 = .ok (.aload_n 0, 1) := by decide +kernel
theorem dX1_mayComeBefore_25 : decode cX1_mayComeBefore 25 = .ok (.getfield 9, 3) := by decide +kernel
theorem dX1_mayComeBefore_28 : decode cX1_mayComeBefore 28 = .ok (.iload 4, 2) := by decide +kernel
theorem dX1_mayComeBefore_30 : decode cX1_mayComeBefore 30 = .ok (.iaload, 1) := by decide +kernel
theorem dX1_mayComeBefore_31 : decode cX1_mayComeBefore 31 = .ok (.iload_n 2, 1) := by decide +kernel
theorem dX1_mayComeBefore_32 : decode cX1_mayComeBefore 32 = .ok (.if_icmp .lt 26, 3) := by decide +kernel
theorem dX1_mayComeBefore_35 : decode cX1_mayComeBefore 35 = .ok (.aload_n 0, 1) := by decide +kernel
theorem dX1_mayComeBefore_36 : decode cX1_mayComeBefore 36 = .ok (.getfield 9, 3) := by decide +kernel
theorem dX1_mayComeBefore_39 : decode cX1_mayComeBefore 39 = .ok (.iload 4, 2) := by decide +kernel
theorem dX1_mayComeBefore_41 : decode cX1_mayComeBefore 41 = .ok (.iaload, 1) := by decide +kernel
theorem dX1_mayComeBefore_42 : decode cX1_mayComeBefore 42 = .ok (.iload_n 2, 1) := by decide +kernel
theorem dX1_mayComeBefore_43 : decode cX1_mayComeBefore 43 = .ok (.if_icmp .ne 17, 3) := by decide +kernel
theorem dX1_mayComeBefore_46 : decode cX1_mayComeBefore 46 = .ok (.aload_n 0, 1) := by decide +kernel
theorem dX1_mayComeBefore_47 : decode cX1_mayComeBefore 47 = .ok (.iload 4, 2) := by decide +kernel
theorem dX1_mayComeBefore_49 : decode cX1_mayComeBefore 49 = .ok (.iconst 1, 1) := by decide +kernel
theorem dX1_mayComeBefore_50 : decode cX1_mayComeBefore 50 = .ok (.iadd, 1) := by decide +kernel
theorem dX1_mayComeBefore_51 : decode cX1_mayComeBefore 51 = .ok (.invokevirtual 35, 3) := by decide +kernel
theorem dX1_mayComeBefore_54 : decode cX1_mayComeBefore 54 = .ok (.iload_n 3, 1) := by decide +kernel
theorem dX1_mayComeBefore_55 : decode cX1_mayComeBefore 55 = .ok (.if_icmp .gt 5, 3) := by decide +kernel
theorem dX1_mayComeBefore_58 : decode cX1_mayComeBefore 58 = .ok (.iconst 1, 1) := by decide +kernel
theorem dX1_mayComeBefore_59 : decode cX1_mayComeBefore 59 = .ok (.ireturn, 1) := by decide +kernel
theorem dX1_mayComeBefore_60 : decode cX1_mayComeBefore 60 = .ok (.iinc 4 1, 3) := by decide +kernel
theorem dX1_mayComeBefore_63 : decode cX1_mayComeBefore 63 = .ok (.goto (-48), 3) := by decide +kernel
theorem dX1_mayComeBefore_66 : decode cX1_mayComeBefore 66 = .ok (.iconst 0, 1) := by decide +kernel
theorem dX1_mayComeBefore_67 : decode cX1_mayComeBefore 67 = .ok (.ireturn, 1) := by decide +kernel
theorem dX1_firstRotation_0 : decode cX1_firstRotation 0 = .ok (.iconst 0, 1) := by decide +kernel
theorem dX1_firstRotation_1 : decode cX1_firstRotation 1 = .ok (.istore_n 1, 1) := by decide +kernel
theorem dX1_firstRotation_2 : decode cX1_firstRotation 2 = .ok (.iconst 1, 1) := by decide +kernel
theorem dX1_firstRotation_3 : decode cX1_firstRotation 3 = .ok (.istore_n 2, 1) := by decide +kernel
theorem dX1_firstRotation_4 : decode cX1_firstRotation 4 = .ok (.iconst 0, 1) := by decide +kernel
theorem dX1_firstRotation_5 : decode cX1_firstRotation 5 = .ok (.istore_n 3, 1) := by decide +kernel
theorem dX1_firstRotation_6 : decode cX1_firstRotation 6 = .ok (.iconst 0, 1) := by decide +kernel
theorem dX1_firstRotation_7 : decode cX1_firstRotation 7 = .ok (.istore 4, 2) := by decide +kernel
theorem dX1_firstRotation_9 : decode cX1_firstRotation 9 = .ok (.iload 4, 2) := by decide +kernel
theorem dX1_firstRotation_11 : decode cX1_firstRotation 11 = .ok (.bipush 72, 2) := by decide +kernel
theorem dX1_firstRotation_13 : decode cX1_firstRotation 13 = .ok (.if_icmp .ge 106, 3) := by decide +kernel
theorem dX1_firstRotation_16 : decode cX1_firstRotation 16 = .ok (.iload_n 1, 1) := by decide +kernel
theorem dX1_firstRotation_17 : decode cX1_firstRotation 17 = .ok (.aload_n 0, 1) := by decide +kernel
theorem dX1_firstRotation_18 : decode cX1_firstRotation 18 = .ok (.getfield 15, 3) := by decide +kernel
theorem dX1_firstRotation_21 : decode cX1_firstRotation 21 = .ok (.if_icmp .ge 98, 3) := by decide +kernel
theorem dX1_firstRotation_24 : decode cX1_firstRotation 24 = .ok (.iload_n 2, 1) := by decide +kernel
theorem dX1_firstRotation_25 : decode cX1_firstRotation 25 = .ok (.aload_n 0, 1) := by decide +kernel
theorem dX1_firstRotation_26 : decode cX1_firstRotation 26 = .ok (.getfield 15, 3) := by decide +kernel
theorem dX1_firstRotation_29 : decode cX1_firstRotation 29 = .ok (.if_icmp .ge 90, 3) := by decide +kernel
theorem dX1_firstRotation_32 : decode cX1_firstRotation 32 = .ok (.iload_n 3, 1) := by decide +kernel
theorem dX1_firstRotation_33 : decode cX1_firstRotation 33 = .ok (.aload_n 0, 1) := by decide +kernel
theorem dX1_firstRotation_34 : decode cX1_firstRotation 34 = .ok (.getfield 15, 3) := by decide +kernel
theorem dX1_firstRotation_37 : decode cX1_firstRotation 37 = .ok (.if_icmp .ge 82, 3) := by decide +kernel
theorem dX1_firstRotation_40 : decode cX1_firstRotation 40 = .ok (.aload_n 0, 1) := by decide +kernel
theorem dX1_firstRotation_41 : decode cX1_firstRotation 41 = .ok (.iload_n 1, 1) := by decide +kernel
theorem dX1_firstRotation_42 : decode cX1_firstRotation 42 = .ok (.iload_n 3, 1) := by decide +kernel
theorem dX1_firstRotation_43 : decode cX1_firstRotation 43 = .ok (.iadd, 1) := by decide +kernel
theorem dX1_firstRotation_44 : decode cX1_firstRotation 44 = .ok (.invokevirtual 35, 3) := by decide +kernel
theorem dX1_firstRotation_47 : decode cX1_firstRotation 47 = .ok (.aload_n 0, 1) := by decide +kernel
theorem dX1_firstRotation_48 : decode cX1_firstRotation 48 = .ok (.iload_n 2, 1) := by decide +kernel
theorem dX1_firstRotation_49 : decode cX1_firstRotation 49 = .ok (.iload_n 3, 1) := by decide +kernel
theorem dX1_firstRotation_50 : decode cX1_firstRotation 50 = .ok (.iadd, 1) := by decide +kernel
theorem dX1_firstRotation_51 : decode cX1_firstRotation 51 = .ok (.invokevirtual 35, 3) := by decide +kernel
theorem dX1_firstRotation_54 : decode cX1_firstRotation 54 = .ok (.isub, 1) := by decide +kernel
theorem dX1_firstRotation_55 : decode cX1_firstRotation 55 = .ok (.istore 5, 2) := by decide +kernel
theorem dX1_firstRotation_57 : decode cX1_firstRotation 57 = .ok (.iload 5, 2) := by decide +kernel
theorem dX1_firstRotation_59 : decode cX1_firstRotation 59 = .ok (.ifCond .ne 9, 3) := by decide +kernel
theorem dX1_firstRotation_62 : decode cX1_firstRotation 62 = .ok (.iinc 3 1, 3) := by decide +kernel
theorem dX1_firstRotation_65 : decode cX1_firstRotation 65 = .ok (.goto 48, 3) := by decide +kernel
theorem dX1_firstRotation_68 : decode cX1_firstRotation 68 = .ok (.iload_n 1, 1) := by decide +kernel
theorem dX1_firstRotation_69 : decode cX1_firstRotation 69 = .ok (.iload 5, 2) := by decide +kernel
theorem dX1_firstRotation_71 : decode cX1_firstRotation 71 = .ok (.ifCond .le 9, 3) := by decide +kernel
theorem dX1_firstRotation_74 : decode cX1_firstRotation 74 = .ok (.iload_n 3, 1) := by decide +kernel
theorem dX1_firstRotation_75 : decode cX1_firstRotation 75 = .ok (.iconst 1, 1) := by decide +kernel
theorem dX1_firstRotation_76 : decode cX1_firstRotation 76 = .ok (.iadd, 1) := by decide +kernel
theorem dX1_firstRotation_77 : decode cX1_firstRotation 77 = .ok (.goto 4, 3) := by decide +kernel
theorem dX1_firstRotation_80 : decode cX1_firstRotation 80 = .ok (.iconst 0, 1) := by decide +kernel
theorem dX1_firstRotation_81 : decode cX1_firstRotation 81 = .ok (.iadd, 1) := by decide +kernel
theorem dX1_firstRotation_82 : decode cX1_firstRotation 82 = .ok (.istore_n 1, 1) := by decide +kernel
theorem dX1_firstRotation_83 : decode cX1_firstRotation 83 = .ok (.iload_n 2, 1) := by decide +kernel
theorem dX1_firstRotation_84 : decode cX1_firstRotation 84 = .ok (.iload 5, 2) := by decide +kernel
theorem dX1_firstRotation_86 : decode cX1_firstRotation 86 = .ok (.ifCond .ge 9, 3) := by decide +kernel
theorem dX1_firstRotation_89 : decode cX1_firstRotation 89 = .ok (.iload_n 3, 1) := by decide +kernel
theorem dX1_firstRotation_90 : decode cX1_firstRotation 90 = .ok (.iconst 1, 1) := by decide +kernel
theorem dX1_firstRotation_91 : decode cX1_firstRotation 91 = .ok (.iadd, 1) := by decide +kernel
theorem dX1_firstRotation_92 : decode cX1_firstRotation 92 = .ok (.goto 4, 3) := by decide +kernel
theorem dX1_firstRotation_95 : decode cX1_firstRotation 95 = .ok (.iconst 0, 1) := by decide +kernel
theorem dX1_firstRotation_96 : decode cX1_firstRotation 96 = .ok (.iadd, 1) := by decide +kernel
theorem dX1_firstRotation_97 : decode cX1_firstRotation 97 = .ok (.istore_n 2, 1) := by decide +kernel
theorem dX1_firstRotation_98 : decode cX1_firstRotation 98 = .ok (.iload_n 2, 1) := by decide +kernel
theorem dX1_firstRotation_99 : decode cX1_firstRotation 99 = .ok (.iload_n 1, 1) := by decide +kernel
theorem dX1_firstRotation_100 : decode cX1_firstRotation 100 = .ok (.iload_n 2, 1) := by decide +kernel
theorem dX1_firstRotation_101 : decode cX1_firstRotation 101 = .ok (.if_icmp .ne 7, 3) := by decide +kernel
theorem dX1_firstRotation_104 : decode cX1_firstRotation 104 = .ok (.iconst 1, 1) := by decide +kernel
theorem dX1_firstRotation_105 : decode cX1_firstRotation 105 = .ok (.goto 4, 3) := by decide +kernel
theorem dX1_firstRotation_108 : decode cX1_firstRotation 108 = .ok (.iconst 0, 1) := by decide +kernel
theorem dX1_firstRotation_109 : decode cX1_firstRotation 109 = .ok (.iadd, 1) := by decide +kernel
theorem dX1_firstRotation_110 : decode cX1_firstRotation 110 = .ok (.istore_n 2, 1) := by decide +kernel
theorem dX1_firstRotation_111 : decode cX1_firstRotation 111 = .ok (.iconst 0, 1) := by decide +kernel
theorem dX1_firstRotation_112 : decode cX1_firstRotation 112 = .ok (.istore_n 3, 1) := by decide +kernel
theorem dX1_firstRotation_113 : decode cX1_firstRotation 113 = .ok (.iinc 4 1, 3) := by decide +kernel
theorem dX1_firstRotation_116 : decode cX1_firstRotation 116 = .ok (.goto (-107), 3) := by decide +kernel
theorem dX1_firstRotation_119 : decode cX1_firstRotation 119 = .ok (.iload_n 1, 1) := by decide +kernel
theorem dX1_firstRotation_120 : decode cX1_firstRotation 120 = .ok (.iload_n 2, 1) := by decide +kernel
theorem dX1_firstRotation_121 : decode cX1_firstRotation 121 = .ok (.invokestatic 38, 3) := by decide +kernel
theorem dX1_firstRotation_124 : decode cX1_firstRotation 124 = .ok (.ireturn, 1) := by decide +kernel
theorem dX1_comeBefore_0 : decode cX1_comeBefore 0 = .ok (.iconst 0, 1) := by decide +kernel
theorem dX1_comeBefore_1 : decode cX1_comeBefore 1 = .ok (.istore_n 3, 1) := by decide +kernel
theorem dX1_comeBefore_2 : decode cX1_comeBefore 2 = .ok (.iload_n 3, 1) := by decide +kernel
theorem dX1_comeBefore_3 : decode cX1_comeBefore 3 = .ok (.aload_n 0, 1) := by decide +kernel
theorem dX1_comeBefore_4 : decode cX1_comeBefore 4 = .ok (.getfield 15, 3) := by decide +kernel
theorem dX1_comeBefore_7 : decode cX1_comeBefore 7 = .ok (.if_icmp .ge 40, 3) := by decide +kernel
theorem dX1_comeBefore_10 : decode cX1_comeBefore 10 = .ok (.aload_n 0, 1) := by decide +kernel
theorem dX1_comeBefore_11 : decode cX1_comeBefore 11 = .ok (.iload_n 1, 1) := by decide +kernel
theorem dX1_comeBefore_12 : decode cX1_comeBefore 12 = .ok (.iload_n 3, 1) := by decide +kernel
theorem dX1_comeBefore_13 : decode cX1_comeBefore 13 = .ok (.iadd, 1) := by decide +kernel
theorem dX1_comeBefore_14 : decode cX1_comeBefore 14 = .ok (.invokevirtual 35, 3) := by decide +kernel
theorem dX1_comeBefore_17 : decode cX1_comeBefore 17 = .ok (.aload_n 2, 1) := by decide +kernel
theorem dX1_comeBefore_18 : decode cX1_comeBefore 18 = .ok (.iload_n 3, 1) := by decide +kernel
theorem dX1_comeBefore_19 : decode cX1_comeBefore 19 = .ok (.invokevirtual 19, 3) := by decide +kernel
theorem dX1_comeBefore_22 : decode cX1_comeBefore 22 = .ok (.isub, 1) := by decide +kernel
theorem dX1_comeBefore_23 : decode cX1_comeBefore 23 = .ok (.istore 4, 2) := by decide +kernel
theorem dX1_comeBefore_25 : decode cX1_comeBefore 25 = .ok (.iload 4, 2) := by decide +kernel
theorem dX1_comeBefore_27 : decode cX1_comeBefore 27 = .ok (.ifCond .eq 14, 3) := by decide +kernel
theorem dX1_comeBefore_30 : decode cX1_comeBefore 30 = .ok (.iload 4, 2) := by decide +kernel
theorem dX1_comeBefore_32 : decode cX1_comeBefore 32 = .ok (.ifCond .ge 7, 3) := by decide +kernel
theorem dX1_comeBefore_35 : decode cX1_comeBefore 35 = .ok (.iconst 1, 1) := by decide +kernel
theorem dX1_comeBefore_36 : decode cX1_comeBefore 36 = .ok (.goto 4, 3) := by decide +kernel
theorem dX1_comeBefore_39 : decode cX1_comeBefore 39 = .ok (.iconst 0, 1) := by decide +kernel
theorem dX1_comeBefore_40 : decode cX1_comeBefore 40 = .ok (.ireturn, 1) := by decide +kernel
theorem dX1_comeBefore_41 : decode cX1_comeBefore 41 = .ok (.iinc 3 1, 3) := by decide +kernel
theorem dX1_comeBefore_44 : decode cX1_comeBefore 44 = .ok (.goto (-42), 3) := by decide +kernel
theorem dX1_comeBefore_47 : decode cX1_comeBefore 47 = .ok (.iconst 0, 1) := by decide +kernel
theorem dX1_comeBefore_48 : decode cX1_comeBefore 48 = .ok (.ireturn, 1) := by decide +kernel
theorem dX1_takeFrom_0 : decode cX1_takeFrom 0 = .ok (.aload_n 0, 1) := by decide +kernel
theorem dX1_takeFrom_1 : decode cX1_takeFrom 1 = .ok (.iconst 0, 1) := by decide +kernel
theorem dX1_takeFrom_2 : decode cX1_takeFrom 2 = .ok (.putfield 15, 3) := by decide +kernel
theorem dX1_takeFrom_5 : decode cX1_takeFrom 5 = .ok (.iconst 0, 1) := by decide +kernel
theorem dX1_takeFrom_6 : decode cX1_takeFrom 6 = .ok (.istore_n 3, 1) := by decide +kernel
theorem dX1_takeFrom_7 : decode cX1_takeFrom 7 = .ok (.iload_n 3, 1) := by decide +kernel
theorem dX1_takeFrom_8 : decode cX1_takeFrom 8 = .ok (.aload_n 1, 1) := by decide +kernel
theorem dX1_takeFrom_9 : decode cX1_takeFrom 9 = .ok (.getfield 15, 3) := by decide +kernel
theorem dX1_takeFrom_12 : decode cX1_takeFrom 12 = .ok (.if_icmp .ge 20, 3) := by decide +kernel
theorem dX1_takeFrom_15 : decode cX1_takeFrom 15 = .ok (.aload_n 0, 1) := by decide +kernel
theorem dX1_takeFrom_16 : decode cX1_takeFrom 16 = .ok (.aload_n 1, 1) := by decide +kernel
theorem dX1_takeFrom_17 : decode cX1_takeFrom 17 = .ok (.iload_n 2, 1) := by decide +kernel
theorem dX1_takeFrom_18 : decode cX1_takeFrom 18 = .ok (.iload_n 3, 1) := by decide +kernel
theorem dX1_takeFrom_19 : decode cX1_takeFrom 19 = .ok (.iadd, 1) := by decide +kernel
theorem dX1_takeFrom_20 : decode cX1_takeFrom 20 = .ok (.invokevirtual 35, 3) := by decide +kernel
theorem dX1_takeFrom_23 : decode cX1_takeFrom 23 = .ok (.invokevirtual 27, 3) := by decide +kernel
theorem dX1_takeFrom_26 : decode cX1_takeFrom 26 = .ok (.iinc 3 1, 3) := by decide +kernel
theorem dX1_takeFrom_29 : decode cX1_takeFrom 29 = .ok (.goto (-22), 3) := by decide +kernel
theorem dX1_takeFrom_32 : decode cX1_takeFrom 32 = .ok (.return_, 1) := by decide +kernel
theorem dX1_spillInto_0 : decode cX1_spillInto 0 = .ok (.iconst 0, 1) := by decide +kernel
theorem dX1_spillInto_1 : decode cX1_spillInto 1 = .ok (.istore_n 2, 1) := by decide +kernel
theorem dX1_spillInto_2 : decode cX1_spillInto 2 = .ok (.aload_n 1, 1) := by decide +kernel
theorem dX1_spillInto_3 : decode cX1_spillInto 3 = .ok (.invokevirtual 44, 3) := by decide +kernel
theorem dX1_spillInto_6 : decode cX1_spillInto 6 = .ok (.iconst 0, 1) := by decide +kernel
theorem dX1_spillInto_7 : decode cX1_spillInto 7 = .ok (.istore_n 3, 1) := by decide +kernel
theorem dX1_spillInto_8 : decode cX1_spillInto 8 = .ok (.iload_n 3, 1) := by decide +kernel
theorem dX1_spillInto_9 : decode cX1_spillInto 9 = .ok (.aload_n 0, 1) := by decide +kernel
theorem dX1_spillInto_10 : decode cX1_spillInto 10 = .ok (.getfield 15, 3) := by decide +kernel
theorem dX1_spillInto_13 : decode cX1_spillInto 13 = .ok (.if_icmp .ge 23, 3) := by decide +kernel
theorem dX1_spillInto_16 : decode cX1_spillInto 16 = .ok (.aload_n 1, 1) := by decide +kernel
theorem dX1_spillInto_17 : decode cX1_spillInto 17 = .ok (.iload_n 2, 1) := by decide +kernel
theorem dX1_spillInto_18 : decode cX1_spillInto 18 = .ok (.invokevirtual 47, 3) := by decide +kernel
theorem dX1_spillInto_21 : decode cX1_spillInto 21 = .ok (.iload_n 2, 1) := by decide +kernel
theorem dX1_spillInto_22 : decode cX1_spillInto 22 = .ok (.aload_n 0, 1) := by decide +kernel
theorem dX1_spillInto_23 : decode cX1_spillInto 23 = .ok (.getfield 9, 3) := by decide +kernel
theorem dX1_spillInto_26 : decode cX1_spillInto 26 = .ok (.iload_n 3, 1) := by decide +kernel
theorem dX1_spillInto_27 : decode cX1_spillInto 27 = .ok (.iaload, 1) := by decide +kernel
theorem dX1_spillInto_28 : decode cX1_spillInto 28 = .ok (.iadd, 1) := by decide +kernel
theorem dX1_spillInto_29 : decode cX1_spillInto 29 = .ok (.istore_n 2, 1) := by decide +kernel
theorem dX1_spillInto_30 : decode cX1_spillInto 30 = .ok (.iinc 3 1, 3) := by decide +kernel
theorem dX1_spillInto_33 : decode cX1_spillInto 33 = .ok (.goto (-25), 3) := by decide +kernel
theorem dX1_spillInto_36 : decode cX1_spillInto 36 = .ok (.return_, 1) := by decide +kernel
theorem dX2_init_0 : decode cX2_init 0 = .ok (.aload_n 0, 1) := by decide +kernel
theorem dX2_init_1 : decode cX2_init 1 = .ok (.invokespecial 3, 3) := by decide +kernel
theorem dX2_init_4 : decode cX2_init 4 = .ok (.aload_n 0, 1) := by decide +kernel
theorem dX2_init_5 : decode cX2_init 5 = .ok (.bipush 24, 2) := by decide +kernel
theorem dX2_init_7 : decode cX2_init 7 = .ok (.newarray .int, 2) := by decide +kernel
theorem dX2_init_9 : decode cX2_init 9 = .ok (.putfield 9, 3) := by decide +kernel
theorem dX2_init_12 : decode cX2_init 12 = .ok (.aload_n 0, 1) := by decide +kernel
theorem dX2_init_13 : decode cX2_init 13 = .ok (.iconst 0, 1) := by decide +kernel
theorem dX2_init_14 : decode cX2_init 14 = .ok (.putfield 15, 3) := by decide +kernel
theorem dX2_init_17 : decode cX2_init 17 = .ok (.return_, 1) := by decide +kernel
theorem dX2_at_0 : decode cX2_at 0 = .ok (.iload_n 1, 1) := by decide +kernel
theorem dX2_at_1 : decode cX2_at 1 = .ok (.ifCond .lt 20, 3) := by decide +kernel
theorem dX2_at_4 : decode cX2_at 4 = .ok (.iload_n 1, 1) := by decide +kernel
theorem dX2_at_5 : decode cX2_at 5 = .ok (.aload_n 0, 1) := by decide +kernel
theorem dX2_at_6 : decode cX2_at 6 = .ok (.getfield 15, 3) := by decide +kernel
theorem dX2_at_9 : decode cX2_at 9 = .ok (.if_icmp .ge 12, 3) := by decide +kernel
theorem dX2_at_12 : decode cX2_at 12 = .ok (.aload_n 0, 1) := by decide +kernel
theorem dX2_at_13 : decode cX2_at 13 = .ok (.getfield 9, 3) := by decide +kernel
theorem dX2_at_16 : decode cX2_at 16 = .ok (.iload_n 1, 1) := by decide +kernel
theorem dX2_at_17 : decode cX2_at 17 = .ok (.iaload, 1) := by decide +kernel
theorem dX2_at_18 : decode cX2_at 18 = .ok (.goto 4, 3) := by decide +kernel
theorem dX2_at_21 : decode cX2_at 21 = .ok (.iconst (-1), 1) := by decide +kernel
theorem dX2_at_22 : decode cX2_at 22 = .ok (.ireturn, 1) := by decide +kernel
theorem dX2_greatest_0 : decode cX2_greatest 0 = .ok (.aload_n 0, 1) := by decide +kernel
theorem dX2_greatest_1 : decode cX2_greatest 1 = .ok (.aload_n 0, 1) := by decide +kernel
theorem dX2_greatest_2 : decode cX2_greatest 2 = .ok (.getfield 15, 3) := by decide +kernel
theorem dX2_greatest_5 : decode cX2_greatest 5 = .ok (.iconst 1, 1) := by decide +kernel
theorem dX2_greatest_6 : decode cX2_greatest 6 = .ok (.isub, 1) := by decide +kernel
theorem dX2_greatest_7 : decode cX2_greatest 7 = .ok (.invokevirtual 19, 3) := by decide +kernel
theorem dX2_greatest_10 : decode cX2_greatest 10 = .ok (.ireturn, 1) := by decide +kernel
theorem dX2_span_0 : decode cX2_span 0 = .ok (.aload_n 0, 1) := by decide +kernel
theorem dX2_span_1 : decode cX2_span 1 = .ok (.getfield 15, 3) := by decide +kernel
theorem dX2_span_4 : decode cX2_span 4 = .ok (.iconst 2, 1) := by decide +kernel
theorem dX2_span_5 : decode cX2_span 5 = .ok (.if_icmp .ge 7, 3) := by decide +kernel
theorem dX2_span_8 : decode cX2_span 8 = .ok (.iconst 0, 1) := by decide +kernel
theorem dX2_span_9 : decode cX2_span 9 = .ok (.goto 13, 3) := by decide +kernel
theorem dX2_span_12 : decode cX2_span 12 = .ok (.aload_n 0, 1) := by decide +kernel
theorem dX2_span_13 : decode cX2_span 13 = .ok (.invokevirtual 23, 3) := by decide +kernel
theorem dX2_span_16 : decode cX2_span 16 = .ok (.aload_n 0, 1) := by decide +kernel
theorem dX2_span_17 : decode cX2_span 17 = .ok (.iconst 0, 1) := by decide +kernel
theorem dX2_span_18 : decode cX2_span 18 = .ok (.invokevirtual 19, 3) := by decide +kernel
theorem dX2_span_21 : decode cX2_span 21 = .ok (.isub, 1) := by decide +kernel
theorem dX2_span_22 : decode cX2_span 22 = .ok (.ireturn, 1) := by decide +kernel
theorem dX2_countBelow_0 : decode cX2_countBelow 0 = .ok (.iconst 0, 1) := by decide +kernel
theorem dX2_countBelow_1 : decode cX2_countBelow 1 = .ok (.istore_n 2, 1) := by decide +kernel
theorem dX2_countBelow_2 : decode cX2_countBelow 2 = .ok (.iconst 0, 1) := by decide +kernel
theorem dX2_countBelow_3 : decode cX2_countBelow 3 = .ok (.istore_n 3, 1) := by decide +kernel
theorem dX2_countBelow_4 : decode cX2_countBelow 4 = .ok (.iload_n 3, 1) := by decide +kernel
theorem dX2_countBelow_5 : decode cX2_countBelow 5 = .ok (.aload_n 0, 1) := by decide +kernel
theorem dX2_countBelow_6 : decode cX2_countBelow 6 = .ok (.getfield 15, 3) := by decide +kernel
theorem dX2_countBelow_9 : decode cX2_countBelow 9 = .ok (.if_icmp .ge 22, 3) := by decide +kernel
theorem dX2_countBelow_12 : decode cX2_countBelow 12 = .ok (.aload_n 0, 1) := by decide +kernel
theorem dX2_countBelow_13 : decode cX2_countBelow 13 = .ok (.getfield 9, 3) := by decide +kernel
theorem dX2_countBelow_16 : decode cX2_countBelow 16 = .ok (.iload_n 3, 1) := by decide +kernel
theorem dX2_countBelow_17 : decode cX2_countBelow 17 = .ok (.iaload, 1) := by decide +kernel
theorem dX2_countBelow_18 : decode cX2_countBelow 18 = .ok (.iload_n 1, 1) := by decide +kernel
theorem dX2_countBelow_19 : decode cX2_countBelow 19 = .ok (.if_icmp .ge 6, 3) := by decide +kernel
theorem dX2_countBelow_22 : decode cX2_countBelow 22 = .ok (.iinc 2 1, 3) := by decide +kernel
theorem dX2_countBelow_25 : decode cX2_countBelow 25 = .ok (.iinc 3 1, 3) := by decide +kernel
theorem dX2_countBelow_28 : decode cX2_countBelow 28 = .ok (.goto (-24), 3) := by decide +kernel
theorem dX2_countBelow_31 : decode cX2_countBelow 31 = .ok (.iload_n 2, 1) := by decide +kernel
theorem dX2_countBelow_32 : decode cX2_countBelow 32 = .ok (.ireturn, 1) := by decide +kernel
theorem dX2_pairsApart_0 : decode cX2_pairsApart 0 = .ok (.iconst 0, 1) := by decide +kernel
theorem dX2_pairsApart_1 : decode cX2_pairsApart 1 = .ok (.istore_n 2, 1) := by decide +kernel
theorem dX2_pairsApart_2 : decode cX2_pairsApart 2 = .ok (.iconst 1, 1) := by decide +kernel
theorem dX2_pairsApart_3 : decode cX2_pairsApart 3 = .ok (.istore_n 3, 1) := by decide +kernel
theorem dX2_pairsApart_4 : decode cX2_pairsApart 4 = .ok (.iload_n 3, 1) := by decide +kernel
theorem dX2_pairsApart_5 : decode cX2_pairsApart 5 = .ok (.aload_n 0, 1) := by decide +kernel
theorem dX2_pairsApart_6 : decode cX2_pairsApart 6 = .ok (.getfield 15, 3) := by decide +kernel
theorem dX2_pairsApart_9 : decode cX2_pairsApart 9 = .ok (.if_icmp .ge 45, 3) := by decide +kernel
theorem dX2_pairsApart_12 : decode cX2_pairsApart 12 = .ok (.iconst 0, 1) := by decide +kernel
theorem dX2_pairsApart_13 : decode cX2_pairsApart 13 = .ok (.istore 4, 2) := by decide +kernel
theorem dX2_pairsApart_15 : decode cX2_pairsApart 15 = .ok (.iload 4, 2) := by decide +kernel
theorem dX2_pairsApart_17 : decode cX2_pairsApart 17 = .ok (.iload_n 3, 1) := by decide +kernel
theorem dX2_pairsApart_18 : decode cX2_pairsApart 18 = .ok (.if_icmp .ge 30, 3) := by decide +kernel
theorem dX2_pairsApart_21 : decode cX2_pairsApart 21 = .ok (.aload_n 0, 1) := by decide +kernel
theorem dX2_pairsApart_22 : decode cX2_pairsApart 22 = .ok (.getfield 9, 3) := by decide +kernel
theorem dX2_pairsApart_25 : decode cX2_pairsApart 25 = .ok (.iload_n 3, 1) := by decide +kernel
theorem dX2_pairsApart_26 : decode cX2_pairsApart 26 = .ok (.iaload, 1) := by decide +kernel
theorem dX2_pairsApart_27 : decode cX2_pairsApart 27 = .ok (.aload_n 0, 1) := by decide +kernel
theorem dX2_pairsApart_28 : decode cX2_pairsApart 28 = .ok (.getfield 9, 3) := by decide +kernel
theorem dX2_pairsApart_31 : decode cX2_pairsApart 31 = .ok (.iload 4, 2) := by decide +kernel
theorem dX2_pairsApart_33 : decode cX2_pairsApart 33 = .ok (.iaload, 1) := by decide +kernel
theorem dX2_pairsApart_34 : decode cX2_pairsApart 34 = .ok (.isub, 1) := by decide +kernel
theorem dX2_pairsApart_35 : decode cX2_pairsApart 35 = .ok (.iload_n 1, 1) := by decide +kernel
theorem dX2_pairsApart_36 : decode cX2_pairsApart 36 = .ok (.if_icmp .ne 6, 3) := by decide +kernel
theorem dX2_pairsApart_39 : decode cX2_pairsApart 39 = .ok (.iinc 2 1, 3) := by decide +kernel
theorem dX2_pairsApart_42 : decode cX2_pairsApart 42 = .ok (.iinc 4 1, 3) := by decide +kernel
theorem dX2_pairsApart_45 : decode cX2_pairsApart 45 = .ok (.goto (-30), 3) := by decide +kernel
theorem dX2_pairsApart_48 : decode cX2_pairsApart 48 = .ok (.iinc 3 1, 3) := by decide +kernel
theorem dX2_pairsApart_51 : decode cX2_pairsApart 51 = .ok (.goto (-47), 3) := by decide +kernel
theorem dX2_pairsApart_54 : decode cX2_pairsApart 54 = .ok (.iload_n 2, 1) := by decide +kernel
theorem dX2_pairsApart_55 : decode cX2_pairsApart 55 = .ok (.ireturn, 1) := by decide +kernel
theorem dX2_empty_0 : decode cX2_empty 0 = .ok (.aload_n 0, 1) := by decide +kernel
theorem dX2_empty_1 : decode cX2_empty 1 = .ok (.iconst 0, 1) := by decide +kernel
theorem dX2_empty_2 : decode cX2_empty 2 = .ok (.putfield 15, 3) := by decide +kernel
theorem dX2_empty_5 : decode cX2_empty 5 = .ok (.return_, 1) := by decide +kernel
theorem dX2_push_0 : decode cX2_push 0 = .ok (.aload_n 0, 1) := by decide +kernel
theorem dX2_push_1 : decode cX2_push 1 = .ok (.getfield 15, 3) := by decide +kernel
theorem dX2_push_4 : decode cX2_push 4 = .ok (.bipush 24, 2) := by decide +kernel
theorem dX2_push_6 : decode cX2_push 6 = .ok (.if_icmp .ge 23, 3) := by decide +kernel
theorem dX2_push_9 : decode cX2_push 9 = .ok (.aload_n 0, 1) := by decide +kernel
theorem dX2_push_10 : decode cX2_push 10 = .ok (.getfield 9, 3) := by decide +kernel
theorem dX2_push_13 : decode cX2_push 13 = .ok (.aload_n 0, 1) := by decide +kernel
theorem dX2_push_14 : decode cX2_push 14 = .ok (.getfield 15, 3) := by decide +kernel
theorem dX2_push_17 : decode cX2_push 17 = .ok (.iload_n 1, 1) := by decide +kernel
theorem dX2_push_18 : decode cX2_push 18 = .ok (.iastore, 1) := by decide +kernel
theorem dX2_push_19 : decode cX2_push 19 = .ok (.aload_n 0, 1) := by decide +kernel
theorem dX2_push_20 : decode cX2_push 20 = .ok (.dup, 1) := by decide +kernel
theorem dX2_push_21 : decode cX2_push 21 = .ok (.getfield 15, 3) := by decide +kernel
theorem dX2_push_24 : decode cX2_push 24 = .ok (.iconst 1, 1) := by decide +kernel
theorem dX2_push_25 : decode cX2_push 25 = .ok (.iadd, 1) := by decide +kernel
theorem dX2_push_26 : decode cX2_push 26 = .ok (.putfield 15, 3) := by decide +kernel
theorem dX2_push_29 : decode cX2_push 29 = .ok (.return_, 1) := by decide +kernel
theorem dX2_pop_0 : decode cX2_pop 0 = .ok (.aload_n 0, 1) := by decide +kernel
theorem dX2_pop_1 : decode cX2_pop 1 = .ok (.getfield 15, 3) := by decide +kernel
theorem dX2_pop_4 : decode cX2_pop 4 = .ok (.ifCond .le 13, 3) := by decide +kernel
theorem dX2_pop_7 : decode cX2_pop 7 = .ok (.aload_n 0, 1) := by decide +kernel
theorem dX2_pop_8 : decode cX2_pop 8 = .ok (.dup, 1) := by decide +kernel
theorem dX2_pop_9 : decode cX2_pop 9 = .ok (.getfield 15, 3) := by decide +kernel
theorem dX2_pop_12 : decode cX2_pop 12 = .ok (.iconst 1, 1) := by decide +kernel
theorem dX2_pop_13 : decode cX2_pop 13 = .ok (.isub, 1) := by decide +kernel
theorem dX2_pop_14 : decode cX2_pop 14 = .ok (.putfield 15, 3) := by decide +kernel
theorem dX2_pop_17 : decode cX2_pop 17 = .ok (.return_, 1) := by decide +kernel
theorem dX2_take_0 : decode cX2_take 0 = .ok (.aload_n 1, 1) := by decide +kernel
theorem dX2_take_1 : decode cX2_take 1 = .ok (.getfield 9, 3) := by decide +kernel
theorem dX2_take_4 : decode cX2_take 4 = .ok (.iconst 0, 1) := by decide +kernel
theorem dX2_take_5 : decode cX2_take 5 = .ok (.aload_n 0, 1) := by decide +kernel
theorem dX2_take_6 : decode cX2_take 6 = .ok (.getfield 9, 3) := by decide +kernel
theorem dX2_take_9 : decode cX2_take 9 = .ok (.iconst 0, 1) := by decide +kernel
theorem dX2_take_10 : decode cX2_take 10 = .ok (.bipush 24, 2) := by decide +kernel
theorem dX2_take_12 : decode cX2_take 12 = .ok (.invokestatic 27, 3) := by decide +kernel
theorem dX2_take_15 : decode cX2_take 15 = .ok (.aload_n 0, 1) := by decide +kernel
theorem dX2_take_16 : decode cX2_take 16 = .ok (.aload_n 1, 1) := by decide +kernel
theorem dX2_take_17 : decode cX2_take 17 = .ok (.getfield 15, 3) := by decide +kernel
theorem dX2_take_20 : decode cX2_take 20 = .ok (.putfield 15, 3) := by decide +kernel
theorem dX2_take_23 : decode cX2_take 23 = .ok (.return_, 1) := by decide +kernel
theorem dX2_takeWith_0 : decode cX2_takeWith 0 = .ok (.aload_n 0, 1) := by decide +kernel
theorem dX2_takeWith_1 : decode cX2_takeWith 1 = .ok (.invokevirtual 33, 3) := by decide +kernel
theorem dX2_takeWith_4 : decode cX2_takeWith 4 = .ok (.iconst 0, 1) := by decide +kernel
theorem dX2_takeWith_5 : decode cX2_takeWith 5 = .ok (.istore 4, 2) := by decide +kernel
theorem dX2_takeWith_7 : decode cX2_takeWith 7 = .ok (.iload 4, 2) := by decide +kernel
theorem dX2_takeWith_9 : decode cX2_takeWith 9 = .ok (.iload_n 2, 1) := by decide +kernel
theorem dX2_takeWith_10 : decode cX2_takeWith 10 = .ok (.if_icmp .ge 19, 3) := by decide +kernel
theorem dX2_takeWith_13 : decode cX2_takeWith 13 = .ok (.aload_n 0, 1) := by decide +kernel
theorem dX2_takeWith_14 : decode cX2_takeWith 14 = .ok (.aload_n 1, 1) := by decide +kernel
theorem dX2_takeWith_15 : decode cX2_takeWith 15 = .ok (.iload 4, 2) := by decide +kernel
theorem dX2_takeWith_17 : decode cX2_takeWith 17 = .ok (.invokevirtual 19, 3) := by decide +kernel
theorem dX2_takeWith_20 : decode cX2_takeWith 20 = .ok (.invokevirtual 36, 3) := by decide +kernel
theorem dX2_takeWith_23 : decode cX2_takeWith 23 = .ok (.iinc 4 1, 3) := by decide +kernel
theorem dX2_takeWith_26 : decode cX2_takeWith 26 = .ok (.goto (-19), 3) := by decide +kernel
theorem dX2_takeWith_29 : decode cX2_takeWith 29 = .ok (.aload_n 0, 1) := by decide +kernel
theorem dX2_takeWith_30 : decode cX2_takeWith 30 = .ok (.iload_n 3, 1) := by decide +kernel
theorem dX2_takeWith_31 : decode cX2_takeWith 31 = .ok (.invokevirtual 36, 3) := by decide +kernel
theorem dX2_takeWith_34 : decode cX2_takeWith 34 = .ok (.iload_n 2, 1) := by decide +kernel
theorem dX2_takeWith_35 : decode cX2_takeWith 35 = .ok (.istore 4, 2) := by decide +kernel
theorem dX2_takeWith_37 : decode cX2_takeWith 37 = .ok (.iload 4, 2) := by decide +kernel
theorem dX2_takeWith_39 : decode cX2_takeWith 39 = .ok (.aload_n 1, 1) := by decide +kernel
theorem dX2_takeWith_40 : decode cX2_takeWith 40 = .ok (.getfield 15, 3) := by decide +kernel
theorem dX2_takeWith_43 : decode cX2_takeWith 43 = .ok (.if_icmp .ge 19, 3) := by decide +kernel
theorem dX2_takeWith_46 : decode cX2_takeWith 46 = .ok (.aload_n 0, 1) := by decide +kernel
theorem dX2_takeWith_47 : decode cX2_takeWith 47 = .ok (.aload_n 1, 1) := by decide +kernel
theorem dX2_takeWith_48 : decode cX2_takeWith 48 = .ok (.iload 4, 2) := by decide +kernel
theorem dX2_takeWith_50 : decode cX2_takeWith 50 = .ok (.invokevirtual 19, 3) := by decide +kernel
theorem dX2_takeWith_53 : decode cX2_takeWith 53 = .ok (.invokevirtual 36, 3) := by decide +kernel
theorem dX2_takeWith_56 : decode cX2_takeWith 56 = .ok (.iinc 4 1, 3) := by decide +kernel
theorem dX2_takeWith_59 : decode cX2_takeWith 59 = .ok (.goto (-22), 3) := by decide +kernel
theorem dX2_takeWith_62 : decode cX2_takeWith 62 = .ok (.return_, 1) := by decide +kernel
theorem dX2_takeWithout_0 : decode cX2_takeWithout 0 = .ok (.aload_n 0, 1) := by decide +kernel
theorem dX2_takeWithout_1 : decode cX2_takeWithout 1 = .ok (.invokevirtual 33, 3) := by decide +kernel
theorem dX2_takeWithout_4 : decode cX2_takeWithout 4 = .ok (.iconst 0, 1) := by decide +kernel
theorem dX2_takeWithout_5 : decode cX2_takeWithout 5 = .ok (.istore_n 3, 1) := by decide +kernel
theorem dX2_takeWithout_6 : decode cX2_takeWithout 6 = .ok (.iload_n 3, 1) := by decide +kernel
theorem dX2_takeWithout_7 : decode cX2_takeWithout 7 = .ok (.aload_n 1, 1) := by decide +kernel
theorem dX2_takeWithout_8 : decode cX2_takeWithout 8 = .ok (.getfield 15, 3) := by decide +kernel
theorem dX2_takeWithout_11 : decode cX2_takeWithout 11 = .ok (.if_icmp .ge 27, 3) := by decide +kernel
theorem dX2_takeWithout_14 : decode cX2_takeWithout 14 = .ok (.aload_n 1, 1) := by decide +kernel
theorem dX2_takeWithout_15 : decode cX2_takeWithout 15 = .ok (.iload_n 3, 1) := by decide +kernel
theorem dX2_takeWithout_16 : decode cX2_takeWithout 16 = .ok (.invokevirtual 19, 3) := by decide +kernel
theorem dX2_takeWithout_19 : decode cX2_takeWithout 19 = .ok (.iload_n 2, 1) := by decide +kernel
theorem dX2_takeWithout_20 : decode cX2_takeWithout 20 = .ok (.if_icmp .eq 12, 3) := by decide +kernel
theorem dX2_takeWithout_23 : decode cX2_takeWithout 23 = .ok (.aload_n 0, 1) := by decide +kernel
theorem dX2_takeWithout_24 : decode cX2_takeWithout 24 = .ok (.aload_n 1, 1) := by decide +kernel
theorem dX2_takeWithout_25 : decode cX2_takeWithout 25 = .ok (.iload_n 3, 1) := by decide +kernel
theorem dX2_takeWithout_26 : decode cX2_takeWithout 26 = .ok (.invokevirtual 19, 3) := by decide +kernel
theorem dX2_takeWithout_29 : decode cX2_takeWithout 29 = .ok (.invokevirtual 36, 3) := by decide +kernel
theorem dX2_takeWithout_32 : decode cX2_takeWithout 32 = .ok (.iinc 3 1, 3) := by decide +kernel
theorem dX2_takeWithout_35 : decode cX2_takeWithout 35 = .ok (.goto (-29), 3) := by decide +kernel
theorem dX2_takeWithout_38 : decode cX2_takeWithout 38 = .ok (.return_, 1) := by decide +kernel
theorem dX3_init_0 : decode cX3_init 0 = .ok (.aload_n 0, 1) := by decide +kernel
theorem dX3_init_1 : decode cX3_init 1 = .ok (.invokespecial 3, 3) := by decide +kernel
theorem dX3_init_4 : decode cX3_init 4 = .ok (.aload_n 0, 1) := by decide +kernel
theorem dX3_init_5 : decode cX3_init 5 = .ok (.new 9, 3) := by decide +kernel
theorem dX3_init_8 : decode cX3_init 8 = .ok (.dup, 1) := by decide +kernel
theorem dX3_init_9 : decode cX3_init 9 = .ok (.invokespecial 11, 3) := by decide +kernel
theorem dX3_init_12 : decode cX3_init 12 = .ok (.putfield 12, 3) := by decide +kernel
theorem dX3_init_15 : decode cX3_init 15 = .ok (.aload_n 0, 1) := by decide +kernel
theorem dX3_init_16 : decode cX3_init 16 = .ok (.iconst 1, 1) := by decide +kernel
theorem dX3_init_17 : decode cX3_init 17 = .ok (.putfield 18, 3) := by decide +kernel
theorem dX3_init_20 : decode cX3_init 20 = .ok (.aload_n 0, 1) := by decide +kernel
theorem dX3_init_21 : decode cX3_init 21 = .ok (.iconst 0, 1) := by decide +kernel
theorem dX3_init_22 : decode cX3_init 22 = .ok (.putfield 22, 3) := by decide +kernel
theorem dX3_init_25 : decode cX3_init 25 = .ok (.return_, 1) := by decide +kernel
theorem dX3_measure_0 : decode cX3_measure 0 = .ok (.aload_n 0, 1) := by decide +kernel
theorem dX3_measure_1 : decode cX3_measure 1 = .ok (.getfield 12, 3) := by decide +kernel
theorem dX3_measure_4 : decode cX3_measure 4 = .ok (.invokevirtual 26, 3) := by decide +kernel
theorem dX3_measure_7 : decode cX3_measure 7 = .ok (.aload_n 0, 1) := by decide +kernel
theorem dX3_measure_8 : decode cX3_measure 8 = .ok (.iconst 1, 1) := by decide +kernel
theorem dX3_measure_9 : decode cX3_measure 9 = .ok (.putfield 18, 3) := by decide +kernel
theorem dX3_measure_12 : decode cX3_measure 12 = .ok (.iconst 1, 1) := by decide +kernel
theorem dX3_measure_13 : decode cX3_measure 13 = .ok (.istore_n 2, 1) := by decide +kernel
theorem dX3_measure_14 : decode cX3_measure 14 = .ok (.iload_n 2, 1) := by decide +kernel
theorem dX3_measure_15 : decode cX3_measure 15 = .ok (.aload_n 1, 1) := by decide +kernel
theorem dX3_measure_16 : decode cX3_measure 16 = .ok (.getfield 29, 3) := by decide +kernel
theorem dX3_measure_19 : decode cX3_measure 19 = .ok (.if_icmp .ge 61, 3) := by decide +kernel
theorem dX3_measure_22 : decode cX3_measure 22 = .ok (.iconst 0, 1) := by decide +kernel
theorem dX3_measure_23 : decode cX3_measure 23 = .ok (.istore_n 3, 1) := by decide +kernel
theorem dX3_measure_24 : decode cX3_measure 24 = .ok (.iload_n 3, 1) := by decide +kernel
theorem dX3_measure_25 : decode cX3_measure 25 = .ok (.iload_n 2, 1) := by decide +kernel
theorem dX3_measure_26 : decode cX3_measure 26 = .ok (.if_icmp .ge 48, 3) := by decide +kernel
theorem dX3_measure_29 : decode cX3_measure 29 = .ok (.aload_n 1, 1) := by decide +kernel
theorem dX3_measure_30 : decode cX3_measure 30 = .ok (.iload_n 2, 1) := by decide +kernel
theorem dX3_measure_31 : decode cX3_measure 31 = .ok (.invokevirtual 34, 3) := by decide +kernel
theorem dX3_measure_34 : decode cX3_measure 34 = .ok (.aload_n 1, 1) := by decide +kernel
theorem dX3_measure_35 : decode cX3_measure 35 = .ok (.iload_n 3, 1) := by decide +kernel
theorem dX3_measure_36 : decode cX3_measure 36 = .ok (.invokevirtual 34, 3) := by decide +kernel
theorem dX3_measure_39 : decode cX3_measure 39 = .ok (.isub, 1) := by decide +kernel
theorem dX3_measure_40 : decode cX3_measure 40 = .ok (.istore 4, 2) := by decide +kernel
theorem dX3_measure_42 : decode cX3_measure 42 = .ok (.aload_n 0, 1) := by decide +kernel
theorem dX3_measure_43 : decode cX3_measure 43 = .ok (.getfield 12, 3) := by decide +kernel
theorem dX3_measure_46 : decode cX3_measure 46 = .ok (.iload 4, 2) := by decide +kernel
theorem dX3_measure_48 : decode cX3_measure 48 = .ok (.invokevirtual 38, 3) := by decide +kernel
theorem dX3_measure_51 : decode cX3_measure 51 = .ok (.ifCond .eq 8, 3) := by decide +kernel
theorem dX3_measure_54 : decode cX3_measure 54 = .ok (.aload_n 0, 1) := by decide +kernel
theorem dX3_measure_55 : decode cX3_measure 55 = .ok (.iconst 0, 1) := by decide +kernel
theorem dX3_measure_56 : decode cX3_measure 56 = .ok (.putfield 18, 3) := by decide +kernel
theorem dX3_measure_59 : decode cX3_measure 59 = .ok (.aload_n 0, 1) := by decide +kernel
theorem dX3_measure_60 : decode cX3_measure 60 = .ok (.getfield 12, 3) := by decide +kernel
theorem dX3_measure_63 : decode cX3_measure 63 = .ok (.iload 4, 2) := by decide +kernel
theorem dX3_measure_65 : decode cX3_measure 65 = .ok (.invokevirtual 42, 3) := by decide +kernel
theorem dX3_measure_68 : decode cX3_measure 68 = .ok (.iinc 3 1, 3) := by decide +kernel
theorem dX3_measure_71 : decode cX3_measure 71 = .ok (.goto (-47), 3) := by decide +kernel
theorem dX3_measure_74 : decode cX3_measure 74 = .ok (.iinc 2 1, 3) := by decide +kernel
theorem dX3_measure_77 : decode cX3_measure 77 = .ok (.goto (-63), 3) := by decide +kernel
theorem dX3_measure_80 : decode cX3_measure 80 = .ok (.return_, 1) := by decide +kernel
theorem dX3_unbroken_0 : decode cX3_unbroken 0 = .ok (.iconst 0, 1) := by decide +kernel
theorem dX3_unbroken_1 : decode cX3_unbroken 1 = .ok (.istore_n 1, 1) := by decide +kernel
theorem dX3_unbroken_2 : decode cX3_unbroken 2 = .ok (.iload_n 1, 1) := by decide +kernel
theorem dX3_unbroken_3 : decode cX3_unbroken 3 = .ok (.sipush 2000, 3) := by decide +kernel
theorem dX3_unbroken_6 : decode cX3_unbroken 6 = .ok (.if_icmp .ge 22, 3) := by decide +kernel
theorem dX3_unbroken_9 : decode cX3_unbroken 9 = .ok (.aload_n 0, 1) := by decide +kernel
theorem dX3_unbroken_10 : decode cX3_unbroken 10 = .ok (.getfield 12, 3) := by decide +kernel
theorem dX3_unbroken_13 : decode cX3_unbroken 13 = .ok (.iload_n 1, 1) := by decide +kernel
theorem dX3_unbroken_14 : decode cX3_unbroken 14 = .ok (.iconst 1, 1) := by decide +kernel
theorem dX3_unbroken_15 : decode cX3_unbroken 15 = .ok (.iadd, 1) := by decide +kernel
theorem dX3_unbroken_16 : decode cX3_unbroken 16 = .ok (.invokevirtual 38, 3) := by decide +kernel
theorem dX3_unbroken_19 : decode cX3_unbroken 19 = .ok (.ifCond .eq 9, 3) := by decide +kernel
theorem dX3_unbroken_22 : decode cX3_unbroken 22 = .ok (.iinc 1 1, 3) := by decide +kernel
theorem dX3_unbroken_25 : decode cX3_unbroken 25 = .ok (.goto (-23), 3) := by decide +kernel
theorem dX3_unbroken_28 : decode cX3_unbroken 28 = .ok (.iload_n 1, 1) := by decide +kernel
theorem dX3_unbroken_29 : decode cX3_unbroken 29 = .ok (.ireturn, 1) := by decide +kernel
theorem dX3_isFree_0 : decode cX3_isFree 0 = .ok (.iconst 0, 1) := by decide +kernel
theorem dX3_isFree_1 : decode cX3_isFree 1 = .ok (.istore_n 3, 1) := by decide +kernel
theorem dX3_isFree_2 : decode cX3_isFree 2 = .ok (.iload_n 3, 1) := by decide +kernel
theorem dX3_isFree_3 : decode cX3_isFree 3 = .ok (.aload_n 1, 1) := by decide +kernel
theorem dX3_isFree_4 : decode cX3_isFree 4 = .ok (.getfield 29, 3) := by decide +kernel
theorem dX3_isFree_7 : decode cX3_isFree 7 = .ok (.if_icmp .ge 28, 3) := by decide +kernel
theorem dX3_isFree_10 : decode cX3_isFree 10 = .ok (.aload_n 0, 1) := by decide +kernel
theorem dX3_isFree_11 : decode cX3_isFree 11 = .ok (.getfield 12, 3) := by decide +kernel
theorem dX3_isFree_14 : decode cX3_isFree 14 = .ok (.iload_n 2, 1) := by decide +kernel
theorem dX3_isFree_15 : decode cX3_isFree 15 = .ok (.aload_n 1, 1) := by decide +kernel
theorem dX3_isFree_16 : decode cX3_isFree 16 = .ok (.iload_n 3, 1) := by decide +kernel
theorem dX3_isFree_17 : decode cX3_isFree 17 = .ok (.invokevirtual 34, 3) := by decide +kernel
theorem dX3_isFree_20 : decode cX3_isFree 20 = .ok (.isub, 1) := by decide +kernel
theorem dX3_isFree_21 : decode cX3_isFree 21 = .ok (.invokevirtual 38, 3) := by decide +kernel
theorem dX3_isFree_24 : decode cX3_isFree 24 = .ok (.ifCond .eq 5, 3) := by decide +kernel
theorem dX3_isFree_27 : decode cX3_isFree 27 = .ok (.iconst 0, 1) := by decide +kernel
theorem dX3_isFree_28 : decode cX3_isFree 28 = .ok (.ireturn, 1) := by decide +kernel
theorem dX3_isFree_29 : decode cX3_isFree 29 = .ok (.iinc 3 1, 3) := by decide +kernel
theorem dX3_isFree_32 : decode cX3_isFree 32 = .ok (.goto (-30), 3) := by decide +kernel
theorem dX3_isFree_35 : decode cX3_isFree 35 = .ok (.iconst 1, 1) := by decide +kernel
theorem dX3_isFree_36 : decode cX3_isFree 36 = .ok (.ireturn, 1) := by decide +kernel
theorem dX3_note_0 : decode cX3_note 0 = .ok (.iconst 0, 1) := by decide +kernel
theorem dX3_note_1 : decode cX3_note 1 = .ok (.istore_n 3, 1) := by decide +kernel
theorem dX3_note_2 : decode cX3_note 2 = .ok (.iload_n 3, 1) := by decide +kernel
theorem dX3_note_3 : decode cX3_note 3 = .ok (.aload_n 1, 1) := by decide +kernel
theorem dX3_note_4 : decode cX3_note 4 = .ok (.getfield 29, 3) := by decide +kernel
theorem dX3_note_7 : decode cX3_note 7 = .ok (.if_icmp .ge 23, 3) := by decide +kernel
theorem dX3_note_10 : decode cX3_note 10 = .ok (.aload_n 0, 1) := by decide +kernel
theorem dX3_note_11 : decode cX3_note 11 = .ok (.getfield 12, 3) := by decide +kernel
theorem dX3_note_14 : decode cX3_note 14 = .ok (.iload_n 2, 1) := by decide +kernel
theorem dX3_note_15 : decode cX3_note 15 = .ok (.aload_n 1, 1) := by decide +kernel
theorem dX3_note_16 : decode cX3_note 16 = .ok (.iload_n 3, 1) := by decide +kernel
theorem dX3_note_17 : decode cX3_note 17 = .ok (.invokevirtual 34, 3) := by decide +kernel
theorem dX3_note_20 : decode cX3_note 20 = .ok (.isub, 1) := by decide +kernel
theorem dX3_note_21 : decode cX3_note 21 = .ok (.invokevirtual 42, 3) := by decide +kernel
theorem dX3_note_24 : decode cX3_note 24 = .ok (.iinc 3 1, 3) := by decide +kernel
theorem dX3_note_27 : decode cX3_note 27 = .ok (.goto (-25), 3) := by decide +kernel
theorem dX3_note_30 : decode cX3_note 30 = .ok (.return_, 1) := by decide +kernel
theorem dX4_init_0 : decode cX4_init 0 = .ok (.aload_n 0, 1) := by decide +kernel
theorem dX4_init_1 : decode cX4_init 1 = .ok (.invokespecial 3, 3) := by decide +kernel
theorem dX4_init_4 : decode cX4_init 4 = .ok (.aload_n 0, 1) := by decide +kernel
theorem dX4_init_5 : decode cX4_init 5 = .ok (.iconst 4, 1) := by decide +kernel
theorem dX4_init_6 : decode cX4_init 6 = .ok (.anewarray 9, 3) := by decide +kernel
theorem dX4_init_9 : decode cX4_init 9 = .ok (.putfield 11, 3) := by decide +kernel
theorem dX4_init_12 : decode cX4_init 12 = .ok (.iconst 0, 1) := by decide +kernel
theorem dX4_init_13 : decode cX4_init 13 = .ok (.istore_n 1, 1) := by decide +kernel
theorem dX4_init_14 : decode cX4_init 14 = .ok (.iload_n 1, 1) := by decide +kernel
theorem dX4_init_15 : decode cX4_init 15 = .ok (.iconst 4, 1) := by decide +kernel
theorem dX4_init_16 : decode cX4_init 16 = .ok (.if_icmp .ge 22, 3) := by decide +kernel
theorem dX4_init_19 : decode cX4_init 19 = .ok (.aload_n 0, 1) := by decide +kernel
theorem dX4_init_20 : decode cX4_init 20 = .ok (.getfield 11, 3) := by decide +kernel
theorem dX4_init_23 : decode cX4_init 23 = .ok (.iload_n 1, 1) := by decide +kernel
theorem dX4_init_24 : decode cX4_init 24 = .ok (.new 9, 3) := by decide +kernel
theorem dX4_init_27 : decode cX4_init 27 = .ok (.dup, 1) := by decide +kernel
theorem dX4_init_28 : decode cX4_init 28 = .ok (.invokespecial 17, 3) := by decide +kernel
theorem dX4_init_31 : decode cX4_init 31 = .ok (.aastore, 1) := by decide +kernel
theorem dX4_init_32 : decode cX4_init 32 = .ok (.iinc 1 1, 3) := by decide +kernel
theorem dX4_init_35 : decode cX4_init 35 = .ok (.goto (-21), 3) := by decide +kernel
theorem dX4_init_38 : decode cX4_init 38 = .ok (.aload_n 0, 1) := by decide +kernel
theorem dX4_init_39 : decode cX4_init 39 = .ok (.bipush 31, 2) := by decide +kernel
theorem dX4_init_41 : decode cX4_init 41 = .ok (.putfield 18, 3) := by decide +kernel
theorem dX4_init_44 : decode cX4_init 44 = .ok (.return_, 1) := by decide +kernel
theorem dX4_take_0 : decode cX4_take 0 = .ok (.iconst 0, 1) := by decide +kernel
theorem dX4_take_1 : decode cX4_take 1 = .ok (.istore_n 2, 1) := by decide +kernel
theorem dX4_take_2 : decode cX4_take 2 = .ok (.iload_n 2, 1) := by decide +kernel
theorem dX4_take_3 : decode cX4_take 3 = .ok (.iconst 4, 1) := by decide +kernel
theorem dX4_take_4 : decode cX4_take 4 = .ok (.if_icmp .ge 24, 3) := by decide +kernel
theorem dX4_take_7 : decode cX4_take 7 = .ok (.aload_n 0, 1) := by decide +kernel
theorem dX4_take_8 : decode cX4_take 8 = .ok (.getfield 11, 3) := by decide +kernel
theorem dX4_take_11 : decode cX4_take 11 = .ok (.iload_n 2, 1) := by decide +kernel
theorem dX4_take_12 : decode cX4_take 12 = .ok (.aaload, 1) := by decide +kernel
theorem dX4_take_13 : decode cX4_take 13 = .ok (.aload_n 1, 1) := by decide +kernel
theorem dX4_take_14 : decode cX4_take 14 = .ok (.getfield 11, 3) := by decide +kernel
theorem dX4_take_17 : decode cX4_take 17 = .ok (.iload_n 2, 1) := by decide +kernel
theorem dX4_take_18 : decode cX4_take 18 = .ok (.aaload, 1) := by decide +kernel
theorem dX4_take_19 : decode cX4_take 19 = .ok (.invokevirtual 22, 3) := by decide +kernel
theorem dX4_take_22 : decode cX4_take 22 = .ok (.iinc 2 1, 3) := by decide +kernel
theorem dX4_take_25 : decode cX4_take 25 = .ok (.goto (-23), 3) := by decide +kernel
theorem dX4_take_28 : decode cX4_take 28 = .ok (.aload_n 0, 1) := by decide +kernel
theorem dX4_take_29 : decode cX4_take 29 = .ok (.aload_n 1, 1) := by decide +kernel
theorem dX4_take_30 : decode cX4_take 30 = .ok (.getfield 18, 3) := by decide +kernel
theorem dX4_take_33 : decode cX4_take 33 = .ok (.putfield 18, 3) := by decide +kernel
theorem dX4_take_36 : decode cX4_take 36 = .ok (.return_, 1) := by decide +kernel
theorem dX5_init_0 : decode cX5_init 0 = .ok (.aload_n 0, 1) := by decide +kernel
theorem dX5_init_1 : decode cX5_init 1 = .ok (.invokespecial 3, 3) := by decide +kernel
theorem dX5_init_4 : decode cX5_init 4 = .ok (.aload_n 0, 1) := by decide +kernel
theorem dX5_init_5 : decode cX5_init 5 = .ok (.sipush 1000, 3) := by decide +kernel
theorem dX5_init_8 : decode cX5_init 8 = .ok (.newarray .int, 2) := by decide +kernel
theorem dX5_init_10 : decode cX5_init 10 = .ok (.putfield 9, 3) := by decide +kernel
theorem dX5_init_13 : decode cX5_init 13 = .ok (.return_, 1) := by decide +kernel
theorem dX5_wipe_0 : decode cX5_wipe 0 = .ok (.aload_n 0, 1) := by decide +kernel
theorem dX5_wipe_1 : decode cX5_wipe 1 = .ok (.getfield 9, 3) := by decide +kernel
theorem dX5_wipe_4 : decode cX5_wipe 4 = .ok (.iconst 0, 1) := by decide +kernel
theorem dX5_wipe_5 : decode cX5_wipe 5 = .ok (.invokestatic 15, 3) := by decide +kernel
theorem dX5_wipe_8 : decode cX5_wipe 8 = .ok (.return_, 1) := by decide +kernel
theorem dX5_of_0 : decode cX5_of 0 = .ok (.iload_n 1, 1) := by decide +kernel
theorem dX5_of_1 : decode cX5_of 1 = .ok (.ifCond .lt 19, 3) := by decide +kernel
theorem dX5_of_4 : decode cX5_of 4 = .ok (.iload_n 1, 1) := by decide +kernel
theorem dX5_of_5 : decode cX5_of 5 = .ok (.sipush 1000, 3) := by decide +kernel
theorem dX5_of_8 : decode cX5_of 8 = .ok (.if_icmp .ge 12, 3) := by decide +kernel
theorem dX5_of_11 : decode cX5_of 11 = .ok (.aload_n 0, 1) := by decide +kernel
theorem dX5_of_12 : decode cX5_of 12 = .ok (.getfield 9, 3) := by decide +kernel
theorem dX5_of_15 : decode cX5_of 15 = .ok (.iload_n 1, 1) := by decide +kernel
theorem dX5_of_16 : decode cX5_of 16 = .ok (.iaload, 1) := by decide +kernel
theorem dX5_of_17 : decode cX5_of 17 = .ok (.goto 4, 3) := by decide +kernel
theorem dX5_of_20 : decode cX5_of 20 = .ok (.iconst 0, 1) := by decide +kernel
theorem dX5_of_21 : decode cX5_of 21 = .ok (.ireturn, 1) := by decide +kernel
theorem dX5_bump_0 : decode cX5_bump 0 = .ok (.iload_n 1, 1) := by decide +kernel
theorem dX5_bump_1 : decode cX5_bump 1 = .ok (.ifCond .lt 10, 3) := by decide +kernel
theorem dX5_bump_4 : decode cX5_bump 4 = .ok (.iload_n 1, 1) := by decide +kernel
theorem dX5_bump_5 : decode cX5_bump 5 = .ok (.sipush 1000, 3) := by decide +kernel
theorem dX5_bump_8 : decode cX5_bump 8 = .ok (.if_icmp .lt 5, 3) := by decide +kernel
theorem dX5_bump_11 : decode cX5_bump 11 = .ok (.iconst 0, 1) := by decide +kernel
theorem dX5_bump_12 : decode cX5_bump 12 = .ok (.ireturn, 1) := by decide +kernel
theorem dX5_bump_13 : decode cX5_bump 13 = .ok (.aload_n 0, 1) := by decide +kernel
theorem dX5_bump_14 : decode cX5_bump 14 = .ok (.getfield 9, 3) := by decide +kernel
theorem dX5_bump_17 : decode cX5_bump 17 = .ok (.iload_n 1, 1) := by decide +kernel
theorem dX5_bump_18 : decode cX5_bump 18 = .ok (.dup2, 1) := by decide +kernel
theorem dX5_bump_19 : decode cX5_bump 19 = .ok (.iaload, 1) := by decide +kernel
theorem dX5_bump_20 : decode cX5_bump 20 = .ok (.iload_n 2, 1) := by decide +kernel
theorem dX5_bump_21 : decode cX5_bump 21 = .ok (.iadd, 1) := by decide +kernel
theorem dX5_bump_22 : decode cX5_bump 22 = .ok (.iastore, 1) := by decide +kernel
theorem dX5_bump_23 : decode cX5_bump 23 = .ok (.aload_n 0, 1) := by decide +kernel
theorem dX5_bump_24 : decode cX5_bump 24 = .ok (.getfield 9, 3) := by decide +kernel
theorem dX5_bump_27 : decode cX5_bump 27 = .ok (.iload_n 1, 1) := by decide +kernel
theorem dX5_bump_28 : decode cX5_bump 28 = .ok (.iaload, 1) := by decide +kernel
theorem dX5_bump_29 : decode cX5_bump 29 = .ok (.ireturn, 1) := by decide +kernel
theorem dX5_countCyclic_0 : decode cX5_countCyclic 0 = .ok (.aload_n 0, 1) := by decide +kernel
theorem dX5_countCyclic_1 : decode cX5_countCyclic 1 = .ok (.invokevirtual 21, 3) := by decide +kernel
theorem dX5_countCyclic_4 : decode cX5_countCyclic 4 = .ok (.iconst 1, 1) := by decide +kernel
theorem dX5_countCyclic_5 : decode cX5_countCyclic 5 = .ok (.istore_n 3, 1) := by decide +kernel
theorem dX5_countCyclic_6 : decode cX5_countCyclic 6 = .ok (.iload_n 3, 1) := by decide +kernel
theorem dX5_countCyclic_7 : decode cX5_countCyclic 7 = .ok (.aload_n 1, 1) := by decide +kernel
theorem dX5_countCyclic_8 : decode cX5_countCyclic 8 = .ok (.getfield 24, 3) := by decide +kernel
theorem dX5_countCyclic_11 : decode cX5_countCyclic 11 = .ok (.if_icmp .ge 56, 3) := by decide +kernel
theorem dX5_countCyclic_14 : decode cX5_countCyclic 14 = .ok (.iconst 0, 1) := by decide +kernel
theorem dX5_countCyclic_15 : decode cX5_countCyclic 15 = .ok (.istore 4, 2) := by decide +kernel
theorem dX5_countCyclic_17 : decode cX5_countCyclic 17 = .ok (.iload 4, 2) := by decide +kernel
theorem dX5_countCyclic_19 : decode cX5_countCyclic 19 = .ok (.iload_n 3, 1) := by decide +kernel
theorem dX5_countCyclic_20 : decode cX5_countCyclic 20 = .ok (.if_icmp .ge 41, 3) := by decide +kernel
theorem dX5_countCyclic_23 : decode cX5_countCyclic 23 = .ok (.aload_n 1, 1) := by decide +kernel
theorem dX5_countCyclic_24 : decode cX5_countCyclic 24 = .ok (.iload_n 3, 1) := by decide +kernel
theorem dX5_countCyclic_25 : decode cX5_countCyclic 25 = .ok (.invokevirtual 30, 3) := by decide +kernel
theorem dX5_countCyclic_28 : decode cX5_countCyclic 28 = .ok (.aload_n 1, 1) := by decide +kernel
theorem dX5_countCyclic_29 : decode cX5_countCyclic 29 = .ok (.iload 4, 2) := by decide +kernel
theorem dX5_countCyclic_31 : decode cX5_countCyclic 31 = .ok (.invokevirtual 30, 3) := by decide +kernel
theorem dX5_countCyclic_34 : decode cX5_countCyclic 34 = .ok (.isub, 1) := by decide +kernel
theorem dX5_countCyclic_35 : decode cX5_countCyclic 35 = .ok (.istore 5, 2) := by decide +kernel
theorem dX5_countCyclic_37 : decode cX5_countCyclic 37 = .ok (.aload_n 0, 1) := by decide +kernel
theorem dX5_countCyclic_38 : decode cX5_countCyclic 38 = .ok (.iload 5, 2) := by decide +kernel
theorem dX5_countCyclic_40 : decode cX5_countCyclic 40 = .ok (.iconst 1, 1) := by decide +kernel
theorem dX5_countCyclic_41 : decode cX5_countCyclic 41 = .ok (.invokevirtual 34, 3) := by decide +kernel
theorem dX5_countCyclic_44 : decode cX5_countCyclic 44 = .ok (.pop, 1) := by decide +kernel
theorem dX5_countCyclic_45 : decode cX5_countCyclic 45 = .ok (.aload_n 0, 1) := by decide +kernel
theorem dX5_countCyclic_46 : decode cX5_countCyclic 46 = .ok (.iload_n 2, 1) := by decide +kernel
theorem dX5_countCyclic_47 : decode cX5_countCyclic 47 = .ok (.iload 5, 2) := by decide +kernel
theorem dX5_countCyclic_49 : decode cX5_countCyclic 49 = .ok (.isub, 1) := by decide +kernel
theorem dX5_countCyclic_50 : decode cX5_countCyclic 50 = .ok (.iconst 1, 1) := by decide +kernel
theorem dX5_countCyclic_51 : decode cX5_countCyclic 51 = .ok (.invokevirtual 34, 3) := by decide +kernel
theorem dX5_countCyclic_54 : decode cX5_countCyclic 54 = .ok (.pop, 1) := by decide +kernel
theorem dX5_countCyclic_55 : decode cX5_countCyclic 55 = .ok (.iinc 4 1, 3) := by decide +kernel
theorem dX5_countCyclic_58 : decode cX5_countCyclic 58 = .ok (.goto (-41), 3) := by decide +kernel
theorem dX5_countCyclic_61 : decode cX5_countCyclic 61 = .ok (.iinc 3 1, 3) := by decide +kernel
theorem dX5_countCyclic_64 : decode cX5_countCyclic 64 = .ok (.goto (-58), 3) := by decide +kernel
theorem dX5_countCyclic_67 : decode cX5_countCyclic 67 = .ok (.return_, 1) := by decide +kernel
theorem dX5_countMark_0 : decode cX5_countMark 0 = .ok (.iconst 0, 1) := by decide +kernel
theorem dX5_countMark_1 : decode cX5_countMark 1 = .ok (.istore 5, 2) := by decide +kernel
theorem dX5_countMark_3 : decode cX5_countMark 3 = .ok (.iconst 0, 1) := by decide +kernel
theorem dX5_countMark_4 : decode cX5_countMark 4 = .ok (.istore 6, 2) := by decide +kernel
theorem dX5_countMark_6 : decode cX5_countMark 6 = .ok (.iload 6, 2) := by decide +kernel
theorem dX5_countMark_8 : decode cX5_countMark 8 = .ok (.aload_n 1, 1) := by decide +kernel
theorem dX5_countMark_9 : decode cX5_countMark 9 = .ok (.getfield 24, 3) := by decide +kernel
theorem dX5_countMark_12 : decode cX5_countMark 12 = .ok (.if_icmp .ge 51, 3) := by decide +kernel
theorem dX5_countMark_15 : decode cX5_countMark 15 = .ok (.iload_n 2, 1) := by decide +kernel
theorem dX5_countMark_16 : decode cX5_countMark 16 = .ok (.aload_n 1, 1) := by decide +kernel
theorem dX5_countMark_17 : decode cX5_countMark 17 = .ok (.iload 6, 2) := by decide +kernel
theorem dX5_countMark_19 : decode cX5_countMark 19 = .ok (.invokevirtual 30, 3) := by decide +kernel
theorem dX5_countMark_22 : decode cX5_countMark 22 = .ok (.isub, 1) := by decide +kernel
theorem dX5_countMark_23 : decode cX5_countMark 23 = .ok (.istore 7, 2) := by decide +kernel
theorem dX5_countMark_25 : decode cX5_countMark 25 = .ok (.iload 5, 2) := by decide +kernel
theorem dX5_countMark_27 : decode cX5_countMark 27 = .ok (.aload_n 0, 1) := by decide +kernel
theorem dX5_countMark_28 : decode cX5_countMark 28 = .ok (.iload 7, 2) := by decide +kernel
theorem dX5_countMark_30 : decode cX5_countMark 30 = .ok (.iload 4, 2) := by decide +kernel
theorem dX5_countMark_32 : decode cX5_countMark 32 = .ok (.invokevirtual 34, 3) := by decide +kernel
theorem dX5_countMark_35 : decode cX5_countMark 35 = .ok (.invokestatic 38, 3) := by decide +kernel
theorem dX5_countMark_38 : decode cX5_countMark 38 = .ok (.istore 5, 2) := by decide +kernel
theorem dX5_countMark_40 : decode cX5_countMark 40 = .ok (.iload 5, 2) := by decide +kernel
theorem dX5_countMark_42 : decode cX5_countMark 42 = .ok (.aload_n 0, 1) := by decide +kernel
theorem dX5_countMark_43 : decode cX5_countMark 43 = .ok (.iload_n 3, 1) := by decide +kernel
theorem dX5_countMark_44 : decode cX5_countMark 44 = .ok (.iload 7, 2) := by decide +kernel
theorem dX5_countMark_46 : decode cX5_countMark 46 = .ok (.isub, 1) := by decide +kernel
theorem dX5_countMark_47 : decode cX5_countMark 47 = .ok (.iload 4, 2) := by decide +kernel
theorem dX5_countMark_49 : decode cX5_countMark 49 = .ok (.invokevirtual 34, 3) := by decide +kernel
theorem dX5_countMark_52 : decode cX5_countMark 52 = .ok (.invokestatic 38, 3) := by decide +kernel
theorem dX5_countMark_55 : decode cX5_countMark 55 = .ok (.istore 5, 2) := by decide +kernel
theorem dX5_countMark_57 : decode cX5_countMark 57 = .ok (.iinc 6 1, 3) := by decide +kernel
theorem dX5_countMark_60 : decode cX5_countMark 60 = .ok (.goto (-54), 3) := by decide +kernel
theorem dX5_countMark_63 : decode cX5_countMark 63 = .ok (.iload 5, 2) := by decide +kernel
theorem dX5_countMark_65 : decode cX5_countMark 65 = .ok (.ireturn, 1) := by decide +kernel
theorem dX5_isAtMost_0 : decode cX5_isAtMost 0 = .ok (.iconst 1, 1) := by decide +kernel
theorem dX5_isAtMost_1 : decode cX5_isAtMost 1 = .ok (.istore_n 3, 1) := by decide +kernel
theorem dX5_isAtMost_2 : decode cX5_isAtMost 2 = .ok (.iload_n 3, 1) := by decide +kernel
theorem dX5_isAtMost_3 : decode cX5_isAtMost 3 = .ok (.iload_n 2, 1) := by decide +kernel
theorem dX5_isAtMost_4 : decode cX5_isAtMost 4 = .ok (.if_icmp .ge 20, 3) := by decide +kernel
theorem dX5_isAtMost_7 : decode cX5_isAtMost 7 = .ok (.aload_n 0, 1) := by decide +kernel
theorem dX5_isAtMost_8 : decode cX5_isAtMost 8 = .ok (.iload_n 3, 1) := by decide +kernel
theorem dX5_isAtMost_9 : decode cX5_isAtMost 9 = .ok (.invokevirtual 43, 3) := by decide +kernel
theorem dX5_isAtMost_12 : decode cX5_isAtMost 12 = .ok (.iload_n 1, 1) := by decide +kernel
theorem dX5_isAtMost_13 : decode cX5_isAtMost 13 = .ok (.if_icmp .le 5, 3) := by decide +kernel
theorem dX5_isAtMost_16 : decode cX5_isAtMost 16 = .ok (.iconst 0, 1) := by decide +kernel
theorem dX5_isAtMost_17 : decode cX5_isAtMost 17 = .ok (.ireturn, 1) := by decide +kernel
theorem dX5_isAtMost_18 : decode cX5_isAtMost 18 = .ok (.iinc 3 1, 3) := by decide +kernel
theorem dX5_isAtMost_21 : decode cX5_isAtMost 21 = .ok (.goto (-19), 3) := by decide +kernel
theorem dX5_isAtMost_24 : decode cX5_isAtMost 24 = .ok (.iconst 1, 1) := by decide +kernel
theorem dX5_isAtMost_25 : decode cX5_isAtMost 25 = .ok (.ireturn, 1) := by decide +kernel
theorem dX5_isLevel_0 : decode cX5_isLevel 0 = .ok (.iconst 2, 1) := by decide +kernel
theorem dX5_isLevel_1 : decode cX5_isLevel 1 = .ok (.istore_n 2, 1) := by decide +kernel
theorem dX5_isLevel_2 : decode cX5_isLevel 2 = .ok (.iload_n 2, 1) := by decide +kernel
theorem dX5_isLevel_3 : decode cX5_isLevel 3 = .ok (.iload_n 1, 1) := by decide +kernel
theorem dX5_isLevel_4 : decode cX5_isLevel 4 = .ok (.if_icmp .ge 24, 3) := by decide +kernel
theorem dX5_isLevel_7 : decode cX5_isLevel 7 = .ok (.aload_n 0, 1) := by decide +kernel
theorem dX5_isLevel_8 : decode cX5_isLevel 8 = .ok (.iload_n 2, 1) := by decide +kernel
theorem dX5_isLevel_9 : decode cX5_isLevel 9 = .ok (.invokevirtual 43, 3) := by decide +kernel
theorem dX5_isLevel_12 : decode cX5_isLevel 12 = .ok (.aload_n 0, 1) := by decide +kernel
theorem dX5_isLevel_13 : decode cX5_isLevel 13 = .ok (.iconst 1, 1) := by decide +kernel
theorem dX5_isLevel_14 : decode cX5_isLevel 14 = .ok (.invokevirtual 43, 3) := by decide +kernel
theorem dX5_isLevel_17 : decode cX5_isLevel 17 = .ok (.if_icmp .eq 5, 3) := by decide +kernel
theorem dX5_isLevel_20 : decode cX5_isLevel 20 = .ok (.iconst 0, 1) := by decide +kernel
theorem dX5_isLevel_21 : decode cX5_isLevel 21 = .ok (.ireturn, 1) := by decide +kernel
theorem dX5_isLevel_22 : decode cX5_isLevel 22 = .ok (.iinc 2 1, 3) := by decide +kernel
theorem dX5_isLevel_25 : decode cX5_isLevel 25 = .ok (.goto (-23), 3) := by decide +kernel
theorem dX5_isLevel_28 : decode cX5_isLevel 28 = .ok (.iconst 1, 1) := by decide +kernel
theorem dX5_isLevel_29 : decode cX5_isLevel 29 = .ok (.ireturn, 1) := by decide +kernel
theorem dX6_init_0 : decode cX6_init 0 = .ok (.aload_n 0, 1) := by decide +kernel
theorem dX6_init_1 : decode cX6_init 1 = .ok (.invokespecial 3, 3) := by decide +kernel
theorem dX6_init_4 : decode cX6_init 4 = .ok (.aload_n 0, 1) := by decide +kernel
theorem dX6_init_5 : decode cX6_init 5 = .ok (.iconst 4, 1) := by decide +kernel
theorem dX6_init_6 : decode cX6_init 6 = .ok (.anewarray 9, 3) := by decide +kernel
theorem dX6_init_9 : decode cX6_init 9 = .ok (.putfield 11, 3) := by decide +kernel
theorem dX6_init_12 : decode cX6_init 12 = .ok (.iconst 0, 1) := by decide +kernel
theorem dX6_init_13 : decode cX6_init 13 = .ok (.istore_n 1, 1) := by decide +kernel
theorem dX6_init_14 : decode cX6_init 14 = .ok (.iload_n 1, 1) := by decide +kernel
theorem dX6_init_15 : decode cX6_init 15 = .ok (.iconst 4, 1) := by decide +kernel
theorem dX6_init_16 : decode cX6_init 16 = .ok (.if_icmp .ge 22, 3) := by decide +kernel
theorem dX6_init_19 : decode cX6_init 19 = .ok (.aload_n 0, 1) := by decide +kernel
theorem dX6_init_20 : decode cX6_init 20 = .ok (.getfield 11, 3) := by decide +kernel
theorem dX6_init_23 : decode cX6_init 23 = .ok (.iload_n 1, 1) := by decide +kernel
theorem dX6_init_24 : decode cX6_init 24 = .ok (.new 9, 3) := by decide +kernel
theorem dX6_init_27 : decode cX6_init 27 = .ok (.dup, 1) := by decide +kernel
theorem dX6_init_28 : decode cX6_init 28 = .ok (.invokespecial 17, 3) := by decide +kernel
theorem dX6_init_31 : decode cX6_init 31 = .ok (.aastore, 1) := by decide +kernel
theorem dX6_init_32 : decode cX6_init 32 = .ok (.iinc 1 1, 3) := by decide +kernel
theorem dX6_init_35 : decode cX6_init 35 = .ok (.goto (-21), 3) := by decide +kernel
theorem dX6_init_38 : decode cX6_init 38 = .ok (.aload_n 0, 1) := by decide +kernel
theorem dX6_init_39 : decode cX6_init 39 = .ok (.iconst 0, 1) := by decide +kernel
theorem dX6_init_40 : decode cX6_init 40 = .ok (.putfield 18, 3) := by decide +kernel
theorem dX6_init_43 : decode cX6_init 43 = .ok (.aload_n 0, 1) := by decide +kernel
theorem dX6_init_44 : decode cX6_init 44 = .ok (.iconst 0, 1) := by decide +kernel
theorem dX6_init_45 : decode cX6_init 45 = .ok (.putfield 22, 3) := by decide +kernel
theorem dX6_init_48 : decode cX6_init 48 = .ok (.return_, 1) := by decide +kernel
theorem dX6_save_0 : decode cX6_save 0 = .ok (.aload_n 0, 1) := by decide +kernel
theorem dX6_save_1 : decode cX6_save 1 = .ok (.getfield 18, 3) := by decide +kernel
theorem dX6_save_4 : decode cX6_save 4 = .ok (.ifCond .lt 11, 3) := by decide +kernel
theorem dX6_save_7 : decode cX6_save 7 = .ok (.aload_n 0, 1) := by decide +kernel
theorem dX6_save_8 : decode cX6_save 8 = .ok (.getfield 18, 3) := by decide +kernel
theorem dX6_save_11 : decode cX6_save 11 = .ok (.iconst 4, 1) := by decide +kernel
theorem dX6_save_12 : decode cX6_save 12 = .ok (.if_icmp .lt 4, 3) := by decide +kernel
theorem dX6_save_15 : decode cX6_save 15 = .ok (.return_, 1) := by decide +kernel
theorem dX6_save_16 : decode cX6_save 16 = .ok (.aload_n 0, 1) := by decide +kernel
theorem dX6_save_17 : decode cX6_save 17 = .ok (.getfield 11, 3) := by decide +kernel
theorem dX6_save_20 : decode cX6_save 20 = .ok (.aload_n 0, 1) := by decide +kernel
theorem dX6_save_21 : decode cX6_save 21 = .ok (.getfield 18, 3) := by decide +kernel
theorem dX6_save_24 : decode cX6_save 24 = .ok (.aaload, 1) := by decide +kernel
theorem dX6_save_25 : decode cX6_save 25 = .ok (.aload_n 1, 1) := by decide +kernel
theorem dX6_save_26 : decode cX6_save 26 = .ok (.invokevirtual 25, 3) := by decide +kernel
theorem dX6_save_29 : decode cX6_save 29 = .ok (.aload_n 0, 1) := by decide +kernel
theorem dX6_save_30 : decode cX6_save 30 = .ok (.aload_n 0, 1) := by decide +kernel
theorem dX6_save_31 : decode cX6_save 31 = .ok (.getfield 18, 3) := by decide +kernel
theorem dX6_save_34 : decode cX6_save 34 = .ok (.iconst 3, 1) := by decide +kernel
theorem dX6_save_35 : decode cX6_save 35 = .ok (.if_icmp .ne 7, 3) := by decide +kernel
theorem dX6_save_38 : decode cX6_save 38 = .ok (.iconst 0, 1) := by decide +kernel
theorem dX6_save_39 : decode cX6_save 39 = .ok (.goto 9, 3) := by decide +kernel
theorem dX6_save_42 : decode cX6_save 42 = .ok (.aload_n 0, 1) := by decide +kernel
theorem dX6_save_43 : decode cX6_save 43 = .ok (.getfield 18, 3) := by decide +kernel
theorem dX6_save_46 : decode cX6_save 46 = .ok (.iconst 1, 1) := by decide +kernel
theorem dX6_save_47 : decode cX6_save 47 = .ok (.iadd, 1) := by decide +kernel
theorem dX6_save_48 : decode cX6_save 48 = .ok (.putfield 18, 3) := by decide +kernel
theorem dX6_save_51 : decode cX6_save 51 = .ok (.aload_n 0, 1) := by decide +kernel
theorem dX6_save_52 : decode cX6_save 52 = .ok (.aload_n 0, 1) := by decide +kernel
theorem dX6_save_53 : decode cX6_save 53 = .ok (.getfield 22, 3) := by decide +kernel
theorem dX6_save_56 : decode cX6_save 56 = .ok (.iconst 1, 1) := by decide +kernel
theorem dX6_save_57 : decode cX6_save 57 = .ok (.iadd, 1) := by decide +kernel
theorem dX6_save_58 : decode cX6_save 58 = .ok (.iconst 4, 1) := by decide +kernel
theorem dX6_save_59 : decode cX6_save 59 = .ok (.invokestatic 29, 3) := by decide +kernel
theorem dX6_save_62 : decode cX6_save 62 = .ok (.putfield 22, 3) := by decide +kernel
theorem dX6_save_65 : decode cX6_save 65 = .ok (.return_, 1) := by decide +kernel
theorem dX6_restore_0 : decode cX6_restore 0 = .ok (.aload_n 0, 1) := by decide +kernel
theorem dX6_restore_1 : decode cX6_restore 1 = .ok (.getfield 18, 3) := by decide +kernel
theorem dX6_restore_4 : decode cX6_restore 4 = .ok (.ifCond .ne 7, 3) := by decide +kernel
theorem dX6_restore_7 : decode cX6_restore 7 = .ok (.iconst 3, 1) := by decide +kernel
theorem dX6_restore_8 : decode cX6_restore 8 = .ok (.goto 9, 3) := by decide +kernel
theorem dX6_restore_11 : decode cX6_restore 11 = .ok (.aload_n 0, 1) := by decide +kernel
theorem dX6_restore_12 : decode cX6_restore 12 = .ok (.getfield 18, 3) := by decide +kernel
theorem dX6_restore_15 : decode cX6_restore 15 = .ok (.iconst 1, 1) := by decide +kernel
theorem dX6_restore_16 : decode cX6_restore 16 = .ok (.isub, 1) := by decide +kernel
theorem dX6_restore_17 : decode cX6_restore 17 = .ok (.istore_n 2, 1) := by decide +kernel
theorem dX6_restore_18 : decode cX6_restore 18 = .ok (.aload_n 0, 1) := by decide +kernel
theorem dX6_restore_19 : decode cX6_restore 19 = .ok (.getfield 22, 3) := by decide +kernel
theorem dX6_restore_22 : decode cX6_restore 22 = .ok (.ifCond .eq 12, 3) := by decide +kernel
theorem dX6_restore_25 : decode cX6_restore 25 = .ok (.iload_n 2, 1) := by decide +kernel
theorem dX6_restore_26 : decode cX6_restore 26 = .ok (.ifCond .lt 8, 3) := by decide +kernel
theorem dX6_restore_29 : decode cX6_restore 29 = .ok (.iload_n 2, 1) := by decide +kernel
theorem dX6_restore_30 : decode cX6_restore 30 = .ok (.iconst 4, 1) := by decide +kernel
theorem dX6_restore_31 : decode cX6_restore 31 = .ok (.if_icmp .lt 4, 3) := by decide +kernel
theorem dX6_restore_34 : decode cX6_restore 34 = .ok (.return_, 1) := by decide +kernel
theorem dX6_restore_35 : decode cX6_restore 35 = .ok (.aload_n 1, 1) := by decide +kernel
theorem dX6_restore_36 : decode cX6_restore 36 = .ok (.aload_n 0, 1) := by decide +kernel
theorem dX6_restore_37 : decode cX6_restore 37 = .ok (.getfield 11, 3) := by decide +kernel
theorem dX6_restore_40 : decode cX6_restore 40 = .ok (.iload_n 2, 1) := by decide +kernel
theorem dX6_restore_41 : decode cX6_restore 41 = .ok (.aaload, 1) := by decide +kernel
theorem dX6_restore_42 : decode cX6_restore 42 = .ok (.invokevirtual 25, 3) := by decide +kernel
theorem dX6_restore_45 : decode cX6_restore 45 = .ok (.aload_n 0, 1) := by decide +kernel
theorem dX6_restore_46 : decode cX6_restore 46 = .ok (.iload_n 2, 1) := by decide +kernel
theorem dX6_restore_47 : decode cX6_restore 47 = .ok (.putfield 18, 3) := by decide +kernel
theorem dX6_restore_50 : decode cX6_restore 50 = .ok (.aload_n 0, 1) := by decide +kernel
theorem dX6_restore_51 : decode cX6_restore 51 = .ok (.dup, 1) := by decide +kernel
theorem dX6_restore_52 : decode cX6_restore 52 = .ok (.getfield 22, 3) := by decide +kernel
theorem dX6_restore_55 : decode cX6_restore 55 = .ok (.iconst 1, 1) := by decide +kernel
theorem dX6_restore_56 : decode cX6_restore 56 = .ok (.isub, 1) := by decide +kernel
theorem dX6_restore_57 : decode cX6_restore 57 = .ok (.putfield 22, 3) := by decide +kernel
theorem dX6_restore_60 : decode cX6_restore 60 = .ok (.return_, 1) := by decide +kernel
theorem dX7_init_0 : decode cX7_init 0 = .ok (.aload_n 0, 1) := by decide +kernel
theorem dX7_init_1 : decode cX7_init 1 = .ok (.invokespecial 3, 3) := by decide +kernel
theorem dX7_init_4 : decode cX7_init 4 = .ok (.aload_n 0, 1) := by decide +kernel
theorem dX7_init_5 : decode cX7_init 5 = .ok (.sipush 1000, 3) := by decide +kernel
theorem dX7_init_8 : decode cX7_init 8 = .ok (.newarray .int, 2) := by decide +kernel
theorem dX7_init_10 : decode cX7_init 10 = .ok (.putfield 9, 3) := by decide +kernel
theorem dX7_init_13 : decode cX7_init 13 = .ok (.aload_n 0, 1) := by decide +kernel
theorem dX7_init_14 : decode cX7_init 14 = .ok (.iconst 0, 1) := by decide +kernel
theorem dX7_init_15 : decode cX7_init 15 = .ok (.putfield 15, 3) := by decide +kernel
theorem dX7_init_18 : decode cX7_init 18 = .ok (.aload_n 0, 1) := by decide +kernel
theorem dX7_init_19 : decode cX7_init 19 = .ok (.iconst 0, 1) := by decide +kernel
theorem dX7_init_20 : decode cX7_init 20 = .ok (.putfield 19, 3) := by decide +kernel
theorem dX7_init_23 : decode cX7_init 23 = .ok (.return_, 1) := by decide +kernel
theorem dX7_at_0 : decode cX7_at 0 = .ok (.iload_n 1, 1) := by decide +kernel
theorem dX7_at_1 : decode cX7_at 1 = .ok (.ifCond .lt 20, 3) := by decide +kernel
theorem dX7_at_4 : decode cX7_at 4 = .ok (.iload_n 1, 1) := by decide +kernel
theorem dX7_at_5 : decode cX7_at 5 = .ok (.aload_n 0, 1) := by decide +kernel
theorem dX7_at_6 : decode cX7_at 6 = .ok (.getfield 15, 3) := by decide +kernel
theorem dX7_at_9 : decode cX7_at 9 = .ok (.if_icmp .ge 12, 3) := by decide +kernel
theorem dX7_at_12 : decode cX7_at 12 = .ok (.aload_n 0, 1) := by decide +kernel
theorem dX7_at_13 : decode cX7_at 13 = .ok (.getfield 9, 3) := by decide +kernel
theorem dX7_at_16 : decode cX7_at 16 = .ok (.iload_n 1, 1) := by decide +kernel
theorem dX7_at_17 : decode cX7_at 17 = .ok (.iaload, 1) := by decide +kernel
theorem dX7_at_18 : decode cX7_at 18 = .ok (.goto 4, 3) := by decide +kernel
theorem dX7_at_21 : decode cX7_at 21 = .ok (.iconst (-1), 1) := by decide +kernel
theorem dX7_at_22 : decode cX7_at 22 = .ok (.ireturn, 1) := by decide +kernel
theorem dX7_prepare_0 : decode cX7_prepare 0 = .ok (.iload_n 1, 1) := by decide +kernel
theorem dX7_prepare_1 : decode cX7_prepare 1 = .ok (.aload_n 0, 1) := by decide +kernel
theorem dX7_prepare_2 : decode cX7_prepare 2 = .ok (.getfield 19, 3) := by decide +kernel
theorem dX7_prepare_5 : decode cX7_prepare 5 = .ok (.if_icmp .ne 4, 3) := by decide +kernel
theorem dX7_prepare_8 : decode cX7_prepare 8 = .ok (.return_, 1) := by decide +kernel
theorem dX7_prepare_9 : decode cX7_prepare 9 = .ok (.aload_n 0, 1) := by decide +kernel
theorem dX7_prepare_10 : decode cX7_prepare 10 = .ok (.iload_n 1, 1) := by decide +kernel
theorem dX7_prepare_11 : decode cX7_prepare 11 = .ok (.putfield 19, 3) := by decide +kernel
theorem dX7_prepare_14 : decode cX7_prepare 14 = .ok (.aload_n 0, 1) := by decide +kernel
theorem dX7_prepare_15 : decode cX7_prepare 15 = .ok (.iconst 0, 1) := by decide +kernel
theorem dX7_prepare_16 : decode cX7_prepare 16 = .ok (.putfield 15, 3) := by decide +kernel
theorem dX7_prepare_19 : decode cX7_prepare 19 = .ok (.iconst 1, 1) := by decide +kernel
theorem dX7_prepare_20 : decode cX7_prepare 20 = .ok (.istore_n 2, 1) := by decide +kernel
theorem dX7_prepare_21 : decode cX7_prepare 21 = .ok (.iload_n 2, 1) := by decide +kernel
theorem dX7_prepare_22 : decode cX7_prepare 22 = .ok (.iload_n 1, 1) := by decide +kernel
theorem dX7_prepare_23 : decode cX7_prepare 23 = .ok (.if_icmp .ge 47, 3) := by decide +kernel
theorem dX7_prepare_26 : decode cX7_prepare 26 = .ok (.aload_n 0, 1) := by decide +kernel
theorem dX7_prepare_27 : decode cX7_prepare 27 = .ok (.getfield 15, 3) := by decide +kernel
theorem dX7_prepare_30 : decode cX7_prepare 30 = .ok (.sipush 1000, 3) := by decide +kernel
theorem dX7_prepare_33 : decode cX7_prepare 33 = .ok (.if_icmp .ge 37, 3) := by decide +kernel
theorem dX7_prepare_36 : decode cX7_prepare 36 = .ok (.iload_n 1, 1) := by decide +kernel
theorem dX7_prepare_37 : decode cX7_prepare 37 = .ok (.iload_n 2, 1) := by decide +kernel
theorem dX7_prepare_38 : decode cX7_prepare 38 = .ok (.invokestatic 22, 3) := by decide +kernel
theorem dX7_prepare_41 : decode cX7_prepare 41 = .ok (.ifCond .eq 23, 3) := by decide +kernel
theorem dX7_prepare_44 : decode cX7_prepare 44 = .ok (.aload_n 0, 1) := by decide +kernel
theorem dX7_prepare_45 : decode cX7_prepare 45 = .ok (.getfield 9, 3) := by decide +kernel
theorem dX7_prepare_48 : decode cX7_prepare 48 = .ok (.aload_n 0, 1) := by decide +kernel
theorem dX7_prepare_49 : decode cX7_prepare 49 = .ok (.getfield 15, 3) := by decide +kernel
theorem dX7_prepare_52 : decode cX7_prepare 52 = .ok (.iload_n 2, 1) := by decide +kernel
theorem dX7_prepare_53 : decode cX7_prepare 53 = .ok (.iastore, 1) := by decide +kernel
theorem dX7_prepare_54 : decode cX7_prepare 54 = .ok (.aload_n 0, 1) := by decide +kernel
theorem dX7_prepare_55 : decode cX7_prepare 55 = .ok (.dup, 1) := by decide +kernel
theorem dX7_prepare_56 : decode cX7_prepare 56 = .ok (.getfield 15, 3) := by decide +kernel
theorem dX7_prepare_59 : decode cX7_prepare 59 = .ok (.iconst 1, 1) := by decide +kernel
theorem dX7_prepare_60 : decode cX7_prepare 60 = .ok (.iadd, 1) := by decide +kernel
theorem dX7_prepare_61 : decode cX7_prepare 61 = .ok (.putfield 15, 3) := by decide +kernel
theorem dX7_prepare_64 : decode cX7_prepare 64 = .ok (.iinc 2 1, 3) := by decide +kernel
theorem dX7_prepare_67 : decode cX7_prepare 67 = .ok (.goto (-46), 3) := by decide +kernel
theorem dX7_prepare_70 : decode cX7_prepare 70 = .ok (.return_, 1) := by decide +kernel
theorem dX8_init_0 : decode cX8_init 0 = .ok (.aload_n 0, 1) := by decide +kernel
theorem dX8_init_1 : decode cX8_init 1 = .ok (.invokespecial 3, 3) := by decide +kernel
theorem dX8_init_4 : decode cX8_init 4 = .ok (.aload_n 0, 1) := by decide +kernel
theorem dX8_init_5 : decode cX8_init 5 = .ok (.new 9, 3) := by decide +kernel
theorem dX8_init_8 : decode cX8_init 8 = .ok (.dup, 1) := by decide +kernel
theorem dX8_init_9 : decode cX8_init 9 = .ok (.invokespecial 11, 3) := by decide +kernel
theorem dX8_init_12 : decode cX8_init 12 = .ok (.putfield 12, 3) := by decide +kernel
theorem dX8_init_15 : decode cX8_init 15 = .ok (.aload_n 0, 1) := by decide +kernel
theorem dX8_init_16 : decode cX8_init 16 = .ok (.new 16, 3) := by decide +kernel
theorem dX8_init_19 : decode cX8_init 19 = .ok (.dup, 1) := by decide +kernel
theorem dX8_init_20 : decode cX8_init 20 = .ok (.invokespecial 18, 3) := by decide +kernel
theorem dX8_init_23 : decode cX8_init 23 = .ok (.putfield 19, 3) := by decide +kernel
theorem dX8_init_26 : decode cX8_init 26 = .ok (.aload_n 0, 1) := by decide +kernel
theorem dX8_init_27 : decode cX8_init 27 = .ok (.new 23, 3) := by decide +kernel
theorem dX8_init_30 : decode cX8_init 30 = .ok (.dup, 1) := by decide +kernel
theorem dX8_init_31 : decode cX8_init 31 = .ok (.invokespecial 25, 3) := by decide +kernel
theorem dX8_init_34 : decode cX8_init 34 = .ok (.putfield 26, 3) := by decide +kernel
theorem dX8_init_37 : decode cX8_init 37 = .ok (.aload_n 0, 1) := by decide +kernel
theorem dX8_init_38 : decode cX8_init 38 = .ok (.new 23, 3) := by decide +kernel
theorem dX8_init_41 : decode cX8_init 41 = .ok (.dup, 1) := by decide +kernel
theorem dX8_init_42 : decode cX8_init 42 = .ok (.invokespecial 25, 3) := by decide +kernel
theorem dX8_init_45 : decode cX8_init 45 = .ok (.putfield 30, 3) := by decide +kernel
theorem dX8_init_48 : decode cX8_init 48 = .ok (.aload_n 0, 1) := by decide +kernel
theorem dX8_init_49 : decode cX8_init 49 = .ok (.new 33, 3) := by decide +kernel
theorem dX8_init_52 : decode cX8_init 52 = .ok (.dup, 1) := by decide +kernel
theorem dX8_init_53 : decode cX8_init 53 = .ok (.invokespecial 35, 3) := by decide +kernel
theorem dX8_init_56 : decode cX8_init 56 = .ok (.putfield 36, 3) := by decide +kernel
theorem dX8_init_59 : decode cX8_init 59 = .ok (.aload_n 0, 1) := by decide +kernel
theorem dX8_init_60 : decode cX8_init 60 = .ok (.new 33, 3) := by decide +kernel
theorem dX8_init_63 : decode cX8_init 63 = .ok (.dup, 1) := by decide +kernel
theorem dX8_init_64 : decode cX8_init 64 = .ok (.invokespecial 35, 3) := by decide +kernel
theorem dX8_init_67 : decode cX8_init 67 = .ok (.putfield 40, 3) := by decide +kernel
theorem dX8_init_70 : decode cX8_init 70 = .ok (.aload_n 0, 1) := by decide +kernel
theorem dX8_init_71 : decode cX8_init 71 = .ok (.new 43, 3) := by decide +kernel
theorem dX8_init_74 : decode cX8_init 74 = .ok (.dup, 1) := by decide +kernel
theorem dX8_init_75 : decode cX8_init 75 = .ok (.invokespecial 45, 3) := by decide +kernel
theorem dX8_init_78 : decode cX8_init 78 = .ok (.putfield 46, 3) := by decide +kernel
theorem dX8_init_81 : decode cX8_init 81 = .ok (.aload_n 0, 1) := by decide +kernel
theorem dX8_init_82 : decode cX8_init 82 = .ok (.iconst 4, 1) := by decide +kernel
theorem dX8_init_83 : decode cX8_init 83 = .ok (.anewarray 50, 3) := by decide +kernel
theorem dX8_init_86 : decode cX8_init 86 = .ok (.putfield 52, 3) := by decide +kernel
theorem dX8_init_89 : decode cX8_init 89 = .ok (.iconst 0, 1) := by decide +kernel
theorem dX8_init_90 : decode cX8_init 90 = .ok (.istore_n 1, 1) := by decide +kernel
theorem dX8_init_91 : decode cX8_init 91 = .ok (.iload_n 1, 1) := by decide +kernel
theorem dX8_init_92 : decode cX8_init 92 = .ok (.iconst 4, 1) := by decide +kernel
theorem dX8_init_93 : decode cX8_init 93 = .ok (.if_icmp .ge 22, 3) := by decide +kernel
theorem dX8_init_96 : decode cX8_init 96 = .ok (.aload_n 0, 1) := by decide +kernel
theorem dX8_init_97 : decode cX8_init 97 = .ok (.getfield 52, 3) := by decide +kernel
theorem dX8_init_100 : decode cX8_init 100 = .ok (.iload_n 1, 1) := by decide +kernel
theorem dX8_init_101 : decode cX8_init 101 = .ok (.new 50, 3) := by decide +kernel
theorem dX8_init_104 : decode cX8_init 104 = .ok (.dup, 1) := by decide +kernel
theorem dX8_init_105 : decode cX8_init 105 = .ok (.invokespecial 56, 3) := by decide +kernel
theorem dX8_init_108 : decode cX8_init 108 = .ok (.aastore, 1) := by decide +kernel
theorem dX8_init_109 : decode cX8_init 109 = .ok (.iinc 1 1, 3) := by decide +kernel
theorem dX8_init_112 : decode cX8_init 112 = .ok (.goto (-21), 3) := by decide +kernel
theorem dX8_init_115 : decode cX8_init 115 = .ok (.aload_n 0, 1) := by decide +kernel
theorem dX8_init_116 : decode cX8_init 116 = .ok (.new 57, 3) := by decide +kernel
theorem dX8_init_119 : decode cX8_init 119 = .ok (.dup, 1) := by decide +kernel
theorem dX8_init_120 : decode cX8_init 120 = .ok (.invokespecial 59, 3) := by decide +kernel
theorem dX8_init_123 : decode cX8_init 123 = .ok (.putfield 60, 3) := by decide +kernel
theorem dX8_init_126 : decode cX8_init 126 = .ok (.aload_n 0, 1) := by decide +kernel
theorem dX8_init_127 : decode cX8_init 127 = .ok (.new 64, 3) := by decide +kernel
theorem dX8_init_130 : decode cX8_init 130 = .ok (.dup, 1) := by decide +kernel
theorem dX8_init_131 : decode cX8_init 131 = .ok (.invokespecial 66, 3) := by decide +kernel
theorem dX8_init_134 : decode cX8_init 134 = .ok (.putfield 67, 3) := by decide +kernel
theorem dX8_init_137 : decode cX8_init 137 = .ok (.return_, 1) := by decide +kernel
theorem dX8_add_0 : decode cX8_add 0 = .ok (.iload_n 1, 1) := by decide +kernel
theorem dX8_add_1 : decode cX8_add 1 = .ok (.invokestatic 71, 3) := by decide +kernel
theorem dX8_add_4 : decode cX8_add 4 = .ok (.iload_n 2, 1) := by decide +kernel
theorem dX8_add_5 : decode cX8_add 5 = .ok (.ifCond .lt 10, 3) := by decide +kernel
theorem dX8_add_8 : decode cX8_add 8 = .ok (.iload_n 2, 1) := by decide +kernel
theorem dX8_add_9 : decode cX8_add 9 = .ok (.sipush 2000, 3) := by decide +kernel
theorem dX8_add_12 : decode cX8_add 12 = .ok (.if_icmp .le 13, 3) := by decide +kernel
theorem dX8_add_15 : decode cX8_add 15 = .ok (.new 75, 3) := by decide +kernel
theorem dX8_add_18 : decode cX8_add 18 = .ok (.dup, 1) := by decide +kernel
theorem dX8_add_19 : decode cX8_add 19 = .ok (.ldc 77, 2) := by decide +kernel
theorem dX8_add_21 : decode cX8_add 21 = .ok (.invokespecial 79, 3) := by decide +kernel
theorem dX8_add_24 : decode cX8_add 24 = .ok (.athrow, 1) := by decide +kernel
theorem dX8_add_25 : decode cX8_add 25 = .ok (.aload_n 0, 1) := by decide +kernel
theorem dX8_add_26 : decode cX8_add 26 = .ok (.getfield 12, 3) := by decide +kernel
theorem dX8_add_29 : decode cX8_add 29 = .ok (.getfield 82, 3) := by decide +kernel
theorem dX8_add_32 : decode cX8_add 32 = .ok (.iload_n 1, 1) := by decide +kernel
theorem dX8_add_33 : decode cX8_add 33 = .ok (.aaload, 1) := by decide +kernel
theorem dX8_add_34 : decode cX8_add 34 = .ok (.astore_n 3, 1) := by decide +kernel
theorem dX8_add_35 : decode cX8_add 35 = .ok (.aload_n 3, 1) := by decide +kernel
theorem dX8_add_36 : decode cX8_add 36 = .ok (.iload_n 2, 1) := by decide +kernel
theorem dX8_add_37 : decode cX8_add 37 = .ok (.invokevirtual 86, 3) := by decide +kernel
theorem dX8_add_40 : decode cX8_add 40 = .ok (.istore 4, 2) := by decide +kernel
theorem dX8_add_42 : decode cX8_add 42 = .ok (.aload_n 3, 1) := by decide +kernel
theorem dX8_add_43 : decode cX8_add 43 = .ok (.iload 4, 2) := by decide +kernel
theorem dX8_add_45 : decode cX8_add 45 = .ok (.invokevirtual 90, 3) := by decide +kernel
theorem dX8_add_48 : decode cX8_add 48 = .ok (.iload_n 2, 1) := by decide +kernel
theorem dX8_add_49 : decode cX8_add 49 = .ok (.if_icmp .ne 13, 3) := by decide +kernel
theorem dX8_add_52 : decode cX8_add 52 = .ok (.new 93, 3) := by decide +kernel
theorem dX8_add_55 : decode cX8_add 55 = .ok (.dup, 1) := by decide +kernel
theorem dX8_add_56 : decode cX8_add 56 = .ok (.ldc 95, 2) := by decide +kernel
theorem dX8_add_58 : decode cX8_add 58 = .ok (.invokespecial 97, 3) := by decide +kernel
theorem dX8_add_61 : decode cX8_add 61 = .ok (.athrow, 1) := by decide +kernel
theorem dX8_add_62 : decode cX8_add 62 = .ok (.aload_n 3, 1) := by decide +kernel
theorem dX8_add_63 : decode cX8_add 63 = .ok (.getfield 98, 3) := by decide +kernel
theorem dX8_add_66 : decode cX8_add 66 = .ok (.bipush 24, 2) := by decide +kernel
theorem dX8_add_68 : decode cX8_add 68 = .ok (.if_icmp .lt 13, 3) := by decide +kernel
theorem dX8_add_71 : decode cX8_add 71 = .ok (.new 93, 3) := by decide +kernel
theorem dX8_add_74 : decode cX8_add 74 = .ok (.dup, 1) := by decide +kernel
theorem dX8_add_75 : decode cX8_add 75 = .ok (.ldc 102, 2) := by decide +kernel
theorem dX8_add_77 : decode cX8_add 77 = .ok (.invokespecial 97, 3) := by decide +kernel
theorem dX8_add_80 : decode cX8_add 80 = .ok (.athrow, 1) := by decide +kernel
theorem dX8_add_81 : decode cX8_add 81 = .ok (.aload_n 0, 1) := by decide +kernel
theorem dX8_add_82 : decode cX8_add 82 = .ok (.getfield 26, 3) := by decide +kernel
theorem dX8_add_85 : decode cX8_add 85 = .ok (.aload_n 3, 1) := by decide +kernel
theorem dX8_add_86 : decode cX8_add 86 = .ok (.iload 4, 2) := by decide +kernel
theorem dX8_add_88 : decode cX8_add 88 = .ok (.iload_n 2, 1) := by decide +kernel
theorem dX8_add_89 : decode cX8_add 89 = .ok (.invokevirtual 104, 3) := by decide +kernel
theorem dX8_add_92 : decode cX8_add 92 = .ok (.aload_n 0, 1) := by decide +kernel
theorem dX8_add_93 : decode cX8_add 93 = .ok (.iload_n 1, 1) := by decide +kernel
theorem dX8_add_94 : decode cX8_add 94 = .ok (.aload_n 0, 1) := by decide +kernel
theorem dX8_add_95 : decode cX8_add 95 = .ok (.getfield 12, 3) := by decide +kernel
theorem dX8_add_98 : decode cX8_add 98 = .ok (.getfield 108, 3) := by decide +kernel
theorem dX8_add_101 : decode cX8_add 101 = .ok (.invokevirtual 111, 3) := by decide +kernel
theorem dX8_add_104 : decode cX8_add 104 = .ok (.iload 4, 2) := by decide +kernel
theorem dX8_add_106 : decode cX8_add 106 = .ok (.ireturn, 1) := by decide +kernel
theorem dX8_remove_0 : decode cX8_remove 0 = .ok (.iload_n 1, 1) := by decide +kernel
theorem dX8_remove_1 : decode cX8_remove 1 = .ok (.invokestatic 71, 3) := by decide +kernel
theorem dX8_remove_4 : decode cX8_remove 4 = .ok (.aload_n 0, 1) := by decide +kernel
theorem dX8_remove_5 : decode cX8_remove 5 = .ok (.getfield 12, 3) := by decide +kernel
theorem dX8_remove_8 : decode cX8_remove 8 = .ok (.getfield 82, 3) := by decide +kernel
theorem dX8_remove_11 : decode cX8_remove 11 = .ok (.iload_n 1, 1) := by decide +kernel
theorem dX8_remove_12 : decode cX8_remove 12 = .ok (.aaload, 1) := by decide +kernel
theorem dX8_remove_13 : decode cX8_remove 13 = .ok (.astore_n 3, 1) := by decide +kernel
theorem dX8_remove_14 : decode cX8_remove 14 = .ok (.iload_n 2, 1) := by decide +kernel
theorem dX8_remove_15 : decode cX8_remove 15 = .ok (.ifCond .lt 16, 3) := by decide +kernel
theorem dX8_remove_18 : decode cX8_remove 18 = .ok (.aload_n 3, 1) := by decide +kernel
theorem dX8_remove_19 : decode cX8_remove 19 = .ok (.aload_n 3, 1) := by decide +kernel
theorem dX8_remove_20 : decode cX8_remove 20 = .ok (.iload_n 2, 1) := by decide +kernel
theorem dX8_remove_21 : decode cX8_remove 21 = .ok (.invokevirtual 86, 3) := by decide +kernel
theorem dX8_remove_24 : decode cX8_remove 24 = .ok (.invokevirtual 90, 3) := by decide +kernel
theorem dX8_remove_27 : decode cX8_remove 27 = .ok (.iload_n 2, 1) := by decide +kernel
theorem dX8_remove_28 : decode cX8_remove 28 = .ok (.if_icmp .eq 13, 3) := by decide +kernel
theorem dX8_remove_31 : decode cX8_remove 31 = .ok (.new 93, 3) := by decide +kernel
theorem dX8_remove_34 : decode cX8_remove 34 = .ok (.dup, 1) := by decide +kernel
theorem dX8_remove_35 : decode cX8_remove 35 = .ok (.ldc 115, 2) := by decide +kernel
theorem dX8_remove_37 : decode cX8_remove 37 = .ok (.invokespecial 97, 3) := by decide +kernel
theorem dX8_remove_40 : decode cX8_remove 40 = .ok (.athrow, 1) := by decide +kernel
theorem dX8_remove_41 : decode cX8_remove 41 = .ok (.aload_n 0, 1) := by decide +kernel
theorem dX8_remove_42 : decode cX8_remove 42 = .ok (.getfield 26, 3) := by decide +kernel
theorem dX8_remove_45 : decode cX8_remove 45 = .ok (.aload_n 3, 1) := by decide +kernel
theorem dX8_remove_46 : decode cX8_remove 46 = .ok (.iload_n 2, 1) := by decide +kernel
theorem dX8_remove_47 : decode cX8_remove 47 = .ok (.invokevirtual 117, 3) := by decide +kernel
theorem dX8_remove_50 : decode cX8_remove 50 = .ok (.aload_n 0, 1) := by decide +kernel
theorem dX8_remove_51 : decode cX8_remove 51 = .ok (.iload_n 1, 1) := by decide +kernel
theorem dX8_remove_52 : decode cX8_remove 52 = .ok (.aload_n 0, 1) := by decide +kernel
theorem dX8_remove_53 : decode cX8_remove 53 = .ok (.getfield 12, 3) := by decide +kernel
theorem dX8_remove_56 : decode cX8_remove 56 = .ok (.getfield 108, 3) := by decide +kernel
theorem dX8_remove_59 : decode cX8_remove 59 = .ok (.invokevirtual 111, 3) := by decide +kernel
theorem dX8_remove_62 : decode cX8_remove 62 = .ok (.aload_n 0, 1) := by decide +kernel
theorem dX8_remove_63 : decode cX8_remove 63 = .ok (.getfield 26, 3) := by decide +kernel
theorem dX8_remove_66 : decode cX8_remove 66 = .ok (.getfield 98, 3) := by decide +kernel
theorem dX8_remove_69 : decode cX8_remove 69 = .ok (.ireturn, 1) := by decide +kernel
theorem dX8_clear_0 : decode cX8_clear 0 = .ok (.iload_n 1, 1) := by decide +kernel
theorem dX8_clear_1 : decode cX8_clear 1 = .ok (.invokestatic 71, 3) := by decide +kernel
theorem dX8_clear_4 : decode cX8_clear 4 = .ok (.aload_n 0, 1) := by decide +kernel
theorem dX8_clear_5 : decode cX8_clear 5 = .ok (.getfield 12, 3) := by decide +kernel
theorem dX8_clear_8 : decode cX8_clear 8 = .ok (.getfield 82, 3) := by decide +kernel
theorem dX8_clear_11 : decode cX8_clear 11 = .ok (.iload_n 1, 1) := by decide +kernel
theorem dX8_clear_12 : decode cX8_clear 12 = .ok (.aaload, 1) := by decide +kernel
theorem dX8_clear_13 : decode cX8_clear 13 = .ok (.getfield 98, 3) := by decide +kernel
theorem dX8_clear_16 : decode cX8_clear 16 = .ok (.istore_n 2, 1) := by decide +kernel
theorem dX8_clear_17 : decode cX8_clear 17 = .ok (.aload_n 0, 1) := by decide +kernel
theorem dX8_clear_18 : decode cX8_clear 18 = .ok (.getfield 26, 3) := by decide +kernel
theorem dX8_clear_21 : decode cX8_clear 21 = .ok (.invokevirtual 121, 3) := by decide +kernel
theorem dX8_clear_24 : decode cX8_clear 24 = .ok (.aload_n 0, 1) := by decide +kernel
theorem dX8_clear_25 : decode cX8_clear 25 = .ok (.iload_n 1, 1) := by decide +kernel
theorem dX8_clear_26 : decode cX8_clear 26 = .ok (.aload_n 0, 1) := by decide +kernel
theorem dX8_clear_27 : decode cX8_clear 27 = .ok (.getfield 12, 3) := by decide +kernel
theorem dX8_clear_30 : decode cX8_clear 30 = .ok (.getfield 108, 3) := by decide +kernel
theorem dX8_clear_33 : decode cX8_clear 33 = .ok (.invokevirtual 111, 3) := by decide +kernel
theorem dX8_clear_36 : decode cX8_clear 36 = .ok (.iload_n 2, 1) := by decide +kernel
theorem dX8_clear_37 : decode cX8_clear 37 = .ok (.ireturn, 1) := by decide +kernel
theorem dX8_copy_0 : decode cX8_copy 0 = .ok (.iload_n 1, 1) := by decide +kernel
theorem dX8_copy_1 : decode cX8_copy 1 = .ok (.invokestatic 71, 3) := by decide +kernel
theorem dX8_copy_4 : decode cX8_copy 4 = .ok (.iload_n 2, 1) := by decide +kernel
theorem dX8_copy_5 : decode cX8_copy 5 = .ok (.invokestatic 71, 3) := by decide +kernel
theorem dX8_copy_8 : decode cX8_copy 8 = .ok (.aload_n 0, 1) := by decide +kernel
theorem dX8_copy_9 : decode cX8_copy 9 = .ok (.getfield 26, 3) := by decide +kernel
theorem dX8_copy_12 : decode cX8_copy 12 = .ok (.aload_n 0, 1) := by decide +kernel
theorem dX8_copy_13 : decode cX8_copy 13 = .ok (.getfield 12, 3) := by decide +kernel
theorem dX8_copy_16 : decode cX8_copy 16 = .ok (.getfield 82, 3) := by decide +kernel
theorem dX8_copy_19 : decode cX8_copy 19 = .ok (.iload_n 1, 1) := by decide +kernel
theorem dX8_copy_20 : decode cX8_copy 20 = .ok (.aaload, 1) := by decide +kernel
theorem dX8_copy_21 : decode cX8_copy 21 = .ok (.invokevirtual 124, 3) := by decide +kernel
theorem dX8_copy_24 : decode cX8_copy 24 = .ok (.aload_n 0, 1) := by decide +kernel
theorem dX8_copy_25 : decode cX8_copy 25 = .ok (.iload_n 2, 1) := by decide +kernel
theorem dX8_copy_26 : decode cX8_copy 26 = .ok (.aload_n 0, 1) := by decide +kernel
theorem dX8_copy_27 : decode cX8_copy 27 = .ok (.getfield 12, 3) := by decide +kernel
theorem dX8_copy_30 : decode cX8_copy 30 = .ok (.getfield 108, 3) := by decide +kernel
theorem dX8_copy_33 : decode cX8_copy 33 = .ok (.invokevirtual 111, 3) := by decide +kernel
theorem dX8_copy_36 : decode cX8_copy 36 = .ok (.aload_n 0, 1) := by decide +kernel
theorem dX8_copy_37 : decode cX8_copy 37 = .ok (.getfield 26, 3) := by decide +kernel
theorem dX8_copy_40 : decode cX8_copy 40 = .ok (.getfield 98, 3) := by decide +kernel
theorem dX8_copy_43 : decode cX8_copy 43 = .ok (.ireturn, 1) := by decide +kernel
theorem dX8_size_0 : decode cX8_size 0 = .ok (.iload_n 1, 1) := by decide +kernel
theorem dX8_size_1 : decode cX8_size 1 = .ok (.invokestatic 71, 3) := by decide +kernel
theorem dX8_size_4 : decode cX8_size 4 = .ok (.aload_n 0, 1) := by decide +kernel
theorem dX8_size_5 : decode cX8_size 5 = .ok (.getfield 12, 3) := by decide +kernel
theorem dX8_size_8 : decode cX8_size 8 = .ok (.getfield 82, 3) := by decide +kernel
theorem dX8_size_11 : decode cX8_size 11 = .ok (.iload_n 1, 1) := by decide +kernel
theorem dX8_size_12 : decode cX8_size 12 = .ok (.aaload, 1) := by decide +kernel
theorem dX8_size_13 : decode cX8_size 13 = .ok (.getfield 98, 3) := by decide +kernel
theorem dX8_size_16 : decode cX8_size 16 = .ok (.ireturn, 1) := by decide +kernel
theorem dX8_mark_0 : decode cX8_mark 0 = .ok (.iload_n 1, 1) := by decide +kernel
theorem dX8_mark_1 : decode cX8_mark 1 = .ok (.invokestatic 71, 3) := by decide +kernel
theorem dX8_mark_4 : decode cX8_mark 4 = .ok (.iload_n 2, 1) := by decide +kernel
theorem dX8_mark_5 : decode cX8_mark 5 = .ok (.ifCond .lt 19, 3) := by decide +kernel
theorem dX8_mark_8 : decode cX8_mark 8 = .ok (.iload_n 2, 1) := by decide +kernel
theorem dX8_mark_9 : decode cX8_mark 9 = .ok (.aload_n 0, 1) := by decide +kernel
theorem dX8_mark_10 : decode cX8_mark 10 = .ok (.getfield 12, 3) := by decide +kernel
theorem dX8_mark_13 : decode cX8_mark 13 = .ok (.getfield 82, 3) := by decide +kernel
theorem dX8_mark_16 : decode cX8_mark 16 = .ok (.iload_n 1, 1) := by decide +kernel
theorem dX8_mark_17 : decode cX8_mark 17 = .ok (.aaload, 1) := by decide +kernel
theorem dX8_mark_18 : decode cX8_mark 18 = .ok (.getfield 98, 3) := by decide +kernel
theorem dX8_mark_21 : decode cX8_mark 21 = .ok (.if_icmp .lt 13, 3) := by decide +kernel
theorem dX8_mark_24 : decode cX8_mark 24 = .ok (.new 128, 3) := by decide +kernel
theorem dX8_mark_27 : decode cX8_mark 27 = .ok (.dup, 1) := by decide +kernel
theorem dX8_mark_28 : decode cX8_mark 28 = .ok (.ldc 130, 2) := by decide +kernel
theorem dX8_mark_30 : decode cX8_mark 30 = .ok (.invokespecial 132, 3) := by decide +kernel
theorem dX8_mark_33 : decode cX8_mark 33 = .ok (.athrow, 1) := by decide +kernel
theorem dX8_mark_34 : decode cX8_mark 34 = .ok (.aload_n 0, 1) := by decide +kernel
theorem dX8_mark_35 : decode cX8_mark 35 = .ok (.getfield 12, 3) := by decide +kernel
theorem dX8_mark_38 : decode cX8_mark 38 = .ok (.getfield 82, 3) := by decide +kernel
theorem dX8_mark_41 : decode cX8_mark 41 = .ok (.iload_n 1, 1) := by decide +kernel
theorem dX8_mark_42 : decode cX8_mark 42 = .ok (.aaload, 1) := by decide +kernel
theorem dX8_mark_43 : decode cX8_mark 43 = .ok (.iload_n 2, 1) := by decide +kernel
theorem dX8_mark_44 : decode cX8_mark 44 = .ok (.invokevirtual 90, 3) := by decide +kernel
theorem dX8_mark_47 : decode cX8_mark 47 = .ok (.ireturn, 1) := by decide +kernel
theorem dX8_length_0 : decode cX8_length 0 = .ok (.iload_n 1, 1) := by decide +kernel
theorem dX8_length_1 : decode cX8_length 1 = .ok (.invokestatic 71, 3) := by decide +kernel
theorem dX8_length_4 : decode cX8_length 4 = .ok (.aload_n 0, 1) := by decide +kernel
theorem dX8_length_5 : decode cX8_length 5 = .ok (.getfield 12, 3) := by decide +kernel
theorem dX8_length_8 : decode cX8_length 8 = .ok (.getfield 82, 3) := by decide +kernel
theorem dX8_length_11 : decode cX8_length 11 = .ok (.iload_n 1, 1) := by decide +kernel
theorem dX8_length_12 : decode cX8_length 12 = .ok (.aaload, 1) := by decide +kernel
theorem dX8_length_13 : decode cX8_length 13 = .ok (.invokevirtual 133, 3) := by decide +kernel
theorem dX8_length_16 : decode cX8_length 16 = .ok (.ireturn, 1) := by decide +kernel
theorem dX8_multiplicity_0 : decode cX8_multiplicity 0 = .ok (.iload_n 1, 1) := by decide +kernel
theorem dX8_multiplicity_1 : decode cX8_multiplicity 1 = .ok (.invokestatic 71, 3) := by decide +kernel
theorem dX8_multiplicity_4 : decode cX8_multiplicity 4 = .ok (.iload_n 2, 1) := by decide +kernel
theorem dX8_multiplicity_5 : decode cX8_multiplicity 5 = .ok (.iconst 1, 1) := by decide +kernel
theorem dX8_multiplicity_6 : decode cX8_multiplicity 6 = .ok (.if_icmp .lt 10, 3) := by decide +kernel
theorem dX8_multiplicity_9 : decode cX8_multiplicity 9 = .ok (.iload_n 2, 1) := by decide +kernel
theorem dX8_multiplicity_10 : decode cX8_multiplicity 10 = .ok (.sipush 2000, 3) := by decide +kernel
theorem dX8_multiplicity_13 : decode cX8_multiplicity 13 = .ok (.if_icmp .le 13, 3) := by decide +kernel
theorem dX8_multiplicity_16 : decode cX8_multiplicity 16 = .ok (.new 75, 3) := by decide +kernel
theorem dX8_multiplicity_19 : decode cX8_multiplicity 19 = .ok (.dup, 1) := by decide +kernel
theorem dX8_multiplicity_20 : decode cX8_multiplicity 20 = .ok (.ldc 137, 2) := by decide +kernel
theorem dX8_multiplicity_22 : decode cX8_multiplicity 22 = .ok (.invokespecial 79, 3) := by decide +kernel
theorem dX8_multiplicity_25 : decode cX8_multiplicity 25 = .ok (.athrow, 1) := by decide +kernel
theorem dX8_multiplicity_26 : decode cX8_multiplicity 26 = .ok (.aload_n 0, 1) := by decide +kernel
theorem dX8_multiplicity_27 : decode cX8_multiplicity 27 = .ok (.getfield 12, 3) := by decide +kernel
theorem dX8_multiplicity_30 : decode cX8_multiplicity 30 = .ok (.getfield 82, 3) := by decide +kernel
theorem dX8_multiplicity_33 : decode cX8_multiplicity 33 = .ok (.iload_n 1, 1) := by decide +kernel
theorem dX8_multiplicity_34 : decode cX8_multiplicity 34 = .ok (.aaload, 1) := by decide +kernel
theorem dX8_multiplicity_35 : decode cX8_multiplicity 35 = .ok (.iload_n 2, 1) := by decide +kernel
theorem dX8_multiplicity_36 : decode cX8_multiplicity 36 = .ok (.invokevirtual 139, 3) := by decide +kernel
theorem dX8_multiplicity_39 : decode cX8_multiplicity 39 = .ok (.ireturn, 1) := by decide +kernel
theorem dX8_isRuler_0 : decode cX8_isRuler 0 = .ok (.iload_n 1, 1) := by decide +kernel
theorem dX8_isRuler_1 : decode cX8_isRuler 1 = .ok (.invokestatic 71, 3) := by decide +kernel
theorem dX8_isRuler_4 : decode cX8_isRuler 4 = .ok (.aload_n 0, 1) := by decide +kernel
theorem dX8_isRuler_5 : decode cX8_isRuler 5 = .ok (.iload_n 1, 1) := by decide +kernel
theorem dX8_isRuler_6 : decode cX8_isRuler 6 = .ok (.invokevirtual 142, 3) := by decide +kernel
theorem dX8_isRuler_9 : decode cX8_isRuler 9 = .ok (.getfield 146, 3) := by decide +kernel
theorem dX8_isRuler_12 : decode cX8_isRuler 12 = .ok (.ireturn, 1) := by decide +kernel
theorem dX8_completeUpTo_0 : decode cX8_completeUpTo 0 = .ok (.iload_n 1, 1) := by decide +kernel
theorem dX8_completeUpTo_1 : decode cX8_completeUpTo 1 = .ok (.invokestatic 71, 3) := by decide +kernel
theorem dX8_completeUpTo_4 : decode cX8_completeUpTo 4 = .ok (.aload_n 0, 1) := by decide +kernel
theorem dX8_completeUpTo_5 : decode cX8_completeUpTo 5 = .ok (.iload_n 1, 1) := by decide +kernel
theorem dX8_completeUpTo_6 : decode cX8_completeUpTo 6 = .ok (.invokevirtual 142, 3) := by decide +kernel
theorem dX8_completeUpTo_9 : decode cX8_completeUpTo 9 = .ok (.invokevirtual 150, 3) := by decide +kernel
theorem dX8_completeUpTo_12 : decode cX8_completeUpTo 12 = .ok (.ireturn, 1) := by decide +kernel
theorem dX8_differences_0 : decode cX8_differences 0 = .ok (.iload_n 1, 1) := by decide +kernel
theorem dX8_differences_1 : decode cX8_differences 1 = .ok (.invokestatic 71, 3) := by decide +kernel
theorem dX8_differences_4 : decode cX8_differences 4 = .ok (.aload_n 0, 1) := by decide +kernel
theorem dX8_differences_5 : decode cX8_differences 5 = .ok (.iload_n 1, 1) := by decide +kernel
theorem dX8_differences_6 : decode cX8_differences 6 = .ok (.invokevirtual 142, 3) := by decide +kernel
theorem dX8_differences_9 : decode cX8_differences 9 = .ok (.getfield 153, 3) := by decide +kernel
theorem dX8_differences_12 : decode cX8_differences 12 = .ok (.invokevirtual 154, 3) := by decide +kernel
theorem dX8_differences_15 : decode cX8_differences 15 = .ok (.ireturn, 1) := by decide +kernel
theorem dX8_isFamily_0 : decode cX8_isFamily 0 = .ok (.iload_n 1, 1) := by decide +kernel
theorem dX8_isFamily_1 : decode cX8_isFamily 1 = .ok (.ifCond .lt 9, 3) := by decide +kernel
theorem dX8_isFamily_4 : decode cX8_isFamily 4 = .ok (.iload_n 1, 1) := by decide +kernel
theorem dX8_isFamily_5 : decode cX8_isFamily 5 = .ok (.bipush 15, 2) := by decide +kernel
theorem dX8_isFamily_7 : decode cX8_isFamily 7 = .ok (.if_icmp .le 13, 3) := by decide +kernel
theorem dX8_isFamily_10 : decode cX8_isFamily 10 = .ok (.new 75, 3) := by decide +kernel
theorem dX8_isFamily_13 : decode cX8_isFamily 13 = .ok (.dup, 1) := by decide +kernel
theorem dX8_isFamily_14 : decode cX8_isFamily 14 = .ok (.ldc 157, 2) := by decide +kernel
theorem dX8_isFamily_16 : decode cX8_isFamily 16 = .ok (.invokespecial 79, 3) := by decide +kernel
theorem dX8_isFamily_19 : decode cX8_isFamily 19 = .ok (.athrow, 1) := by decide +kernel
theorem dX8_isFamily_20 : decode cX8_isFamily 20 = .ok (.aload_n 0, 1) := by decide +kernel
theorem dX8_isFamily_21 : decode cX8_isFamily 21 = .ok (.invokevirtual 159, 3) := by decide +kernel
theorem dX8_isFamily_24 : decode cX8_isFamily 24 = .ok (.aload_n 0, 1) := by decide +kernel
theorem dX8_isFamily_25 : decode cX8_isFamily 25 = .ok (.iload_n 1, 1) := by decide +kernel
theorem dX8_isFamily_26 : decode cX8_isFamily 26 = .ok (.invokevirtual 162, 3) := by decide +kernel
theorem dX8_isFamily_29 : decode cX8_isFamily 29 = .ok (.ireturn, 1) := by decide +kernel
theorem dX8_setModulus_0 : decode cX8_setModulus 0 = .ok (.iload_n 1, 1) := by decide +kernel
theorem dX8_setModulus_1 : decode cX8_setModulus 1 = .ok (.iconst 2, 1) := by decide +kernel
theorem dX8_setModulus_2 : decode cX8_setModulus 2 = .ok (.if_icmp .lt 10, 3) := by decide +kernel
theorem dX8_setModulus_5 : decode cX8_setModulus 5 = .ok (.iload_n 1, 1) := by decide +kernel
theorem dX8_setModulus_6 : decode cX8_setModulus 6 = .ok (.sipush 1000, 3) := by decide +kernel
theorem dX8_setModulus_9 : decode cX8_setModulus 9 = .ok (.if_icmp .le 13, 3) := by decide +kernel
theorem dX8_setModulus_12 : decode cX8_setModulus 12 = .ok (.new 75, 3) := by decide +kernel
theorem dX8_setModulus_15 : decode cX8_setModulus 15 = .ok (.dup, 1) := by decide +kernel
theorem dX8_setModulus_16 : decode cX8_setModulus 16 = .ok (.ldc 166, 2) := by decide +kernel
theorem dX8_setModulus_18 : decode cX8_setModulus 18 = .ok (.invokespecial 79, 3) := by decide +kernel
theorem dX8_setModulus_21 : decode cX8_setModulus 21 = .ok (.athrow, 1) := by decide +kernel
theorem dX8_setModulus_22 : decode cX8_setModulus 22 = .ok (.aload_n 0, 1) := by decide +kernel
theorem dX8_setModulus_23 : decode cX8_setModulus 23 = .ok (.getfield 12, 3) := by decide +kernel
theorem dX8_setModulus_26 : decode cX8_setModulus 26 = .ok (.getfield 108, 3) := by decide +kernel
theorem dX8_setModulus_29 : decode cX8_setModulus 29 = .ok (.istore_n 2, 1) := by decide +kernel
theorem dX8_setModulus_30 : decode cX8_setModulus 30 = .ok (.aload_n 0, 1) := by decide +kernel
theorem dX8_setModulus_31 : decode cX8_setModulus 31 = .ok (.getfield 19, 3) := by decide +kernel
theorem dX8_setModulus_34 : decode cX8_setModulus 34 = .ok (.aload_n 0, 1) := by decide +kernel
theorem dX8_setModulus_35 : decode cX8_setModulus 35 = .ok (.getfield 12, 3) := by decide +kernel
theorem dX8_setModulus_38 : decode cX8_setModulus 38 = .ok (.invokevirtual 168, 3) := by decide +kernel
theorem dX8_setModulus_41 : decode cX8_setModulus 41 = .ok (.aload_n 0, 1) := by decide +kernel
theorem dX8_setModulus_42 : decode cX8_setModulus 42 = .ok (.getfield 12, 3) := by decide +kernel
theorem dX8_setModulus_45 : decode cX8_setModulus 45 = .ok (.iload_n 1, 1) := by decide +kernel
theorem dX8_setModulus_46 : decode cX8_setModulus 46 = .ok (.putfield 108, 3) := by decide +kernel
theorem dX8_setModulus_49 : decode cX8_setModulus 49 = .ok (.iload_n 2, 1) := by decide +kernel
theorem dX8_setModulus_50 : decode cX8_setModulus 50 = .ok (.ireturn, 1) := by decide +kernel
theorem dX8_cyclicMultiplicity_0 : decode cX8_cyclicMultiplicity 0 = .ok (.iload_n 1, 1) := by decide +kernel
theorem dX8_cyclicMultiplicity_1 : decode cX8_cyclicMultiplicity 1 = .ok (.invokestatic 71, 3) := by decide +kernel
theorem dX8_cyclicMultiplicity_4 : decode cX8_cyclicMultiplicity 4 = .ok (.iload_n 2, 1) := by decide +kernel
theorem dX8_cyclicMultiplicity_5 : decode cX8_cyclicMultiplicity 5 = .ok (.iconst 1, 1) := by decide +kernel
theorem dX8_cyclicMultiplicity_6 : decode cX8_cyclicMultiplicity 6 = .ok (.if_icmp .lt 14, 3) := by decide +kernel
theorem dX8_cyclicMultiplicity_9 : decode cX8_cyclicMultiplicity 9 = .ok (.iload_n 2, 1) := by decide +kernel
theorem dX8_cyclicMultiplicity_10 : decode cX8_cyclicMultiplicity 10 = .ok (.aload_n 0, 1) := by decide +kernel
theorem dX8_cyclicMultiplicity_11 : decode cX8_cyclicMultiplicity 11 = .ok (.getfield 12, 3) := by decide +kernel
theorem dX8_cyclicMultiplicity_14 : decode cX8_cyclicMultiplicity 14 = .ok (.getfield 108, 3) := by decide +kernel
theorem dX8_cyclicMultiplicity_17 : decode cX8_cyclicMultiplicity 17 = .ok (.if_icmp .lt 13, 3) := by decide +kernel
theorem dX8_cyclicMultiplicity_20 : decode cX8_cyclicMultiplicity 20 = .ok (.new 75, 3) := by decide +kernel
theorem dX8_cyclicMultiplicity_23 : decode cX8_cyclicMultiplicity 23 = .ok (.dup, 1) := by decide +kernel
theorem dX8_cyclicMultiplicity_24 : decode cX8_cyclicMultiplicity 24 = .ok (.ldc 137, 2) := by decide +kernel
theorem dX8_cyclicMultiplicity_26 : decode cX8_cyclicMultiplicity 26 = .ok (.invokespecial 79, 3) := by decide +kernel
theorem dX8_cyclicMultiplicity_29 : decode cX8_cyclicMultiplicity 29 = .ok (.athrow, 1) := by decide +kernel
theorem dX8_cyclicMultiplicity_30 : decode cX8_cyclicMultiplicity 30 = .ok (.aload_n 0, 1) := by decide +kernel
theorem dX8_cyclicMultiplicity_31 : decode cX8_cyclicMultiplicity 31 = .ok (.iload_n 1, 1) := by decide +kernel
theorem dX8_cyclicMultiplicity_32 : decode cX8_cyclicMultiplicity 32 = .ok (.invokevirtual 172, 3) := by decide +kernel
theorem dX8_cyclicMultiplicity_35 : decode cX8_cyclicMultiplicity 35 = .ok (.aload_n 0, 1) := by decide +kernel
theorem dX8_cyclicMultiplicity_36 : decode cX8_cyclicMultiplicity 36 = .ok (.getfield 12, 3) := by decide +kernel
theorem dX8_cyclicMultiplicity_39 : decode cX8_cyclicMultiplicity 39 = .ok (.getfield 82, 3) := by decide +kernel
theorem dX8_cyclicMultiplicity_42 : decode cX8_cyclicMultiplicity 42 = .ok (.iload_n 1, 1) := by decide +kernel
theorem dX8_cyclicMultiplicity_43 : decode cX8_cyclicMultiplicity 43 = .ok (.aaload, 1) := by decide +kernel
theorem dX8_cyclicMultiplicity_44 : decode cX8_cyclicMultiplicity 44 = .ok (.astore_n 3, 1) := by decide +kernel
theorem dX8_cyclicMultiplicity_45 : decode cX8_cyclicMultiplicity 45 = .ok (.aload_n 3, 1) := by decide +kernel
theorem dX8_cyclicMultiplicity_46 : decode cX8_cyclicMultiplicity 46 = .ok (.iload_n 2, 1) := by decide +kernel
theorem dX8_cyclicMultiplicity_47 : decode cX8_cyclicMultiplicity 47 = .ok (.invokevirtual 139, 3) := by decide +kernel
theorem dX8_cyclicMultiplicity_50 : decode cX8_cyclicMultiplicity 50 = .ok (.aload_n 3, 1) := by decide +kernel
theorem dX8_cyclicMultiplicity_51 : decode cX8_cyclicMultiplicity 51 = .ok (.aload_n 0, 1) := by decide +kernel
theorem dX8_cyclicMultiplicity_52 : decode cX8_cyclicMultiplicity 52 = .ok (.getfield 12, 3) := by decide +kernel
theorem dX8_cyclicMultiplicity_55 : decode cX8_cyclicMultiplicity 55 = .ok (.getfield 108, 3) := by decide +kernel
theorem dX8_cyclicMultiplicity_58 : decode cX8_cyclicMultiplicity 58 = .ok (.iload_n 2, 1) := by decide +kernel
theorem dX8_cyclicMultiplicity_59 : decode cX8_cyclicMultiplicity 59 = .ok (.isub, 1) := by decide +kernel
theorem dX8_cyclicMultiplicity_60 : decode cX8_cyclicMultiplicity 60 = .ok (.invokevirtual 139, 3) := by decide +kernel
theorem dX8_cyclicMultiplicity_63 : decode cX8_cyclicMultiplicity 63 = .ok (.iadd, 1) := by decide +kernel
theorem dX8_cyclicMultiplicity_64 : decode cX8_cyclicMultiplicity 64 = .ok (.ireturn, 1) := by decide +kernel
theorem dX8_isCyclicRuler_0 : decode cX8_isCyclicRuler 0 = .ok (.iload_n 1, 1) := by decide +kernel
theorem dX8_isCyclicRuler_1 : decode cX8_isCyclicRuler 1 = .ok (.invokestatic 71, 3) := by decide +kernel
theorem dX8_isCyclicRuler_4 : decode cX8_isCyclicRuler 4 = .ok (.aload_n 0, 1) := by decide +kernel
theorem dX8_isCyclicRuler_5 : decode cX8_isCyclicRuler 5 = .ok (.iload_n 1, 1) := by decide +kernel
theorem dX8_isCyclicRuler_6 : decode cX8_isCyclicRuler 6 = .ok (.invokevirtual 172, 3) := by decide +kernel
theorem dX8_isCyclicRuler_9 : decode cX8_isCyclicRuler 9 = .ok (.aload_n 0, 1) := by decide +kernel
theorem dX8_isCyclicRuler_10 : decode cX8_isCyclicRuler 10 = .ok (.getfield 60, 3) := by decide +kernel
theorem dX8_isCyclicRuler_13 : decode cX8_isCyclicRuler 13 = .ok (.aload_n 0, 1) := by decide +kernel
theorem dX8_isCyclicRuler_14 : decode cX8_isCyclicRuler 14 = .ok (.getfield 12, 3) := by decide +kernel
theorem dX8_isCyclicRuler_17 : decode cX8_isCyclicRuler 17 = .ok (.getfield 82, 3) := by decide +kernel
theorem dX8_isCyclicRuler_20 : decode cX8_isCyclicRuler 20 = .ok (.iload_n 1, 1) := by decide +kernel
theorem dX8_isCyclicRuler_21 : decode cX8_isCyclicRuler 21 = .ok (.aaload, 1) := by decide +kernel
theorem dX8_isCyclicRuler_22 : decode cX8_isCyclicRuler 22 = .ok (.aload_n 0, 1) := by decide +kernel
theorem dX8_isCyclicRuler_23 : decode cX8_isCyclicRuler 23 = .ok (.getfield 12, 3) := by decide +kernel
theorem dX8_isCyclicRuler_26 : decode cX8_isCyclicRuler 26 = .ok (.getfield 108, 3) := by decide +kernel
theorem dX8_isCyclicRuler_29 : decode cX8_isCyclicRuler 29 = .ok (.invokevirtual 175, 3) := by decide +kernel
theorem dX8_isCyclicRuler_32 : decode cX8_isCyclicRuler 32 = .ok (.aload_n 0, 1) := by decide +kernel
theorem dX8_isCyclicRuler_33 : decode cX8_isCyclicRuler 33 = .ok (.getfield 60, 3) := by decide +kernel
theorem dX8_isCyclicRuler_36 : decode cX8_isCyclicRuler 36 = .ok (.iconst 1, 1) := by decide +kernel
theorem dX8_isCyclicRuler_37 : decode cX8_isCyclicRuler 37 = .ok (.aload_n 0, 1) := by decide +kernel
theorem dX8_isCyclicRuler_38 : decode cX8_isCyclicRuler 38 = .ok (.getfield 12, 3) := by decide +kernel
theorem dX8_isCyclicRuler_41 : decode cX8_isCyclicRuler 41 = .ok (.getfield 108, 3) := by decide +kernel
theorem dX8_isCyclicRuler_44 : decode cX8_isCyclicRuler 44 = .ok (.invokevirtual 178, 3) := by decide +kernel
theorem dX8_isCyclicRuler_47 : decode cX8_isCyclicRuler 47 = .ok (.ireturn, 1) := by decide +kernel
theorem dX8_index_0 : decode cX8_index 0 = .ok (.iload_n 1, 1) := by decide +kernel
theorem dX8_index_1 : decode cX8_index 1 = .ok (.invokestatic 71, 3) := by decide +kernel
theorem dX8_index_4 : decode cX8_index 4 = .ok (.aload_n 0, 1) := by decide +kernel
theorem dX8_index_5 : decode cX8_index 5 = .ok (.iload_n 1, 1) := by decide +kernel
theorem dX8_index_6 : decode cX8_index 6 = .ok (.invokevirtual 172, 3) := by decide +kernel
theorem dX8_index_9 : decode cX8_index 9 = .ok (.aload_n 0, 1) := by decide +kernel
theorem dX8_index_10 : decode cX8_index 10 = .ok (.aload_n 0, 1) := by decide +kernel
theorem dX8_index_11 : decode cX8_index 11 = .ok (.getfield 12, 3) := by decide +kernel
theorem dX8_index_14 : decode cX8_index 14 = .ok (.getfield 82, 3) := by decide +kernel
theorem dX8_index_17 : decode cX8_index 17 = .ok (.iload_n 1, 1) := by decide +kernel
theorem dX8_index_18 : decode cX8_index 18 = .ok (.aaload, 1) := by decide +kernel
theorem dX8_index_19 : decode cX8_index 19 = .ok (.invokevirtual 182, 3) := by decide +kernel
theorem dX8_index_22 : decode cX8_index 22 = .ok (.ireturn, 1) := by decide +kernel
theorem dX8_map_0 : decode cX8_map 0 = .ok (.iload_n 1, 1) := by decide +kernel
theorem dX8_map_1 : decode cX8_map 1 = .ok (.invokestatic 71, 3) := by decide +kernel
theorem dX8_map_4 : decode cX8_map 4 = .ok (.iload 4, 2) := by decide +kernel
theorem dX8_map_6 : decode cX8_map 6 = .ok (.invokestatic 71, 3) := by decide +kernel
theorem dX8_map_9 : decode cX8_map 9 = .ok (.iload_n 2, 1) := by decide +kernel
theorem dX8_map_10 : decode cX8_map 10 = .ok (.ifCond .lt 21, 3) := by decide +kernel
theorem dX8_map_13 : decode cX8_map 13 = .ok (.iload_n 2, 1) := by decide +kernel
theorem dX8_map_14 : decode cX8_map 14 = .ok (.sipush 1000, 3) := by decide +kernel
theorem dX8_map_17 : decode cX8_map 17 = .ok (.if_icmp .gt 14, 3) := by decide +kernel
theorem dX8_map_20 : decode cX8_map 20 = .ok (.iload_n 3, 1) := by decide +kernel
theorem dX8_map_21 : decode cX8_map 21 = .ok (.ifCond .lt 10, 3) := by decide +kernel
theorem dX8_map_24 : decode cX8_map 24 = .ok (.iload_n 3, 1) := by decide +kernel
theorem dX8_map_25 : decode cX8_map 25 = .ok (.sipush 1000, 3) := by decide +kernel
theorem dX8_map_28 : decode cX8_map 28 = .ok (.if_icmp .le 13, 3) := by decide +kernel
theorem dX8_map_31 : decode cX8_map 31 = .ok (.new 75, 3) := by decide +kernel
theorem dX8_map_34 : decode cX8_map 34 = .ok (.dup, 1) := by decide +kernel
theorem dX8_map_35 : decode cX8_map 35 = .ok (.ldc 186, 2) := by decide +kernel
theorem dX8_map_37 : decode cX8_map 37 = .ok (.invokespecial 79, 3) := by decide +kernel
theorem dX8_map_40 : decode cX8_map 40 = .ok (.athrow, 1) := by decide +kernel
theorem dX8_map_41 : decode cX8_map 41 = .ok (.aload_n 0, 1) := by decide +kernel
theorem dX8_map_42 : decode cX8_map 42 = .ok (.iload_n 1, 1) := by decide +kernel
theorem dX8_map_43 : decode cX8_map 43 = .ok (.invokevirtual 172, 3) := by decide +kernel
theorem dX8_map_46 : decode cX8_map 46 = .ok (.aload_n 0, 1) := by decide +kernel
theorem dX8_map_47 : decode cX8_map 47 = .ok (.aload_n 0, 1) := by decide +kernel
theorem dX8_map_48 : decode cX8_map 48 = .ok (.getfield 12, 3) := by decide +kernel
theorem dX8_map_51 : decode cX8_map 51 = .ok (.getfield 82, 3) := by decide +kernel
theorem dX8_map_54 : decode cX8_map 54 = .ok (.iload_n 1, 1) := by decide +kernel
theorem dX8_map_55 : decode cX8_map 55 = .ok (.aaload, 1) := by decide +kernel
theorem dX8_map_56 : decode cX8_map 56 = .ok (.iload_n 2, 1) := by decide +kernel
theorem dX8_map_57 : decode cX8_map 57 = .ok (.iload_n 3, 1) := by decide +kernel
theorem dX8_map_58 : decode cX8_map 58 = .ok (.aload_n 0, 1) := by decide +kernel
theorem dX8_map_59 : decode cX8_map 59 = .ok (.getfield 26, 3) := by decide +kernel
theorem dX8_map_62 : decode cX8_map 62 = .ok (.invokevirtual 188, 3) := by decide +kernel
theorem dX8_map_65 : decode cX8_map 65 = .ok (.aload_n 0, 1) := by decide +kernel
theorem dX8_map_66 : decode cX8_map 66 = .ok (.iload 4, 2) := by decide +kernel
theorem dX8_map_68 : decode cX8_map 68 = .ok (.aload_n 0, 1) := by decide +kernel
theorem dX8_map_69 : decode cX8_map 69 = .ok (.getfield 12, 3) := by decide +kernel
theorem dX8_map_72 : decode cX8_map 72 = .ok (.getfield 108, 3) := by decide +kernel
theorem dX8_map_75 : decode cX8_map 75 = .ok (.invokevirtual 111, 3) := by decide +kernel
theorem dX8_map_78 : decode cX8_map 78 = .ok (.aload_n 0, 1) := by decide +kernel
theorem dX8_map_79 : decode cX8_map 79 = .ok (.getfield 26, 3) := by decide +kernel
theorem dX8_map_82 : decode cX8_map 82 = .ok (.getfield 98, 3) := by decide +kernel
theorem dX8_map_85 : decode cX8_map 85 = .ok (.ireturn, 1) := by decide +kernel
theorem dX8_complement_0 : decode cX8_complement 0 = .ok (.iload_n 1, 1) := by decide +kernel
theorem dX8_complement_1 : decode cX8_complement 1 = .ok (.invokestatic 71, 3) := by decide +kernel
theorem dX8_complement_4 : decode cX8_complement 4 = .ok (.iload_n 2, 1) := by decide +kernel
theorem dX8_complement_5 : decode cX8_complement 5 = .ok (.invokestatic 71, 3) := by decide +kernel
theorem dX8_complement_8 : decode cX8_complement 8 = .ok (.aload_n 0, 1) := by decide +kernel
theorem dX8_complement_9 : decode cX8_complement 9 = .ok (.iload_n 1, 1) := by decide +kernel
theorem dX8_complement_10 : decode cX8_complement 10 = .ok (.invokevirtual 172, 3) := by decide +kernel
theorem dX8_complement_13 : decode cX8_complement 13 = .ok (.aload_n 0, 1) := by decide +kernel
theorem dX8_complement_14 : decode cX8_complement 14 = .ok (.getfield 12, 3) := by decide +kernel
theorem dX8_complement_17 : decode cX8_complement 17 = .ok (.getfield 108, 3) := by decide +kernel
theorem dX8_complement_20 : decode cX8_complement 20 = .ok (.aload_n 0, 1) := by decide +kernel
theorem dX8_complement_21 : decode cX8_complement 21 = .ok (.getfield 12, 3) := by decide +kernel
theorem dX8_complement_24 : decode cX8_complement 24 = .ok (.getfield 82, 3) := by decide +kernel
theorem dX8_complement_27 : decode cX8_complement 27 = .ok (.iload_n 1, 1) := by decide +kernel
theorem dX8_complement_28 : decode cX8_complement 28 = .ok (.aaload, 1) := by decide +kernel
theorem dX8_complement_29 : decode cX8_complement 29 = .ok (.getfield 98, 3) := by decide +kernel
theorem dX8_complement_32 : decode cX8_complement 32 = .ok (.isub, 1) := by decide +kernel
theorem dX8_complement_33 : decode cX8_complement 33 = .ok (.bipush 24, 2) := by decide +kernel
theorem dX8_complement_35 : decode cX8_complement 35 = .ok (.if_icmp .le 13, 3) := by decide +kernel
theorem dX8_complement_38 : decode cX8_complement 38 = .ok (.new 93, 3) := by decide +kernel
theorem dX8_complement_41 : decode cX8_complement 41 = .ok (.dup, 1) := by decide +kernel
theorem dX8_complement_42 : decode cX8_complement 42 = .ok (.ldc 192, 2) := by decide +kernel
theorem dX8_complement_44 : decode cX8_complement 44 = .ok (.invokespecial 97, 3) := by decide +kernel
theorem dX8_complement_47 : decode cX8_complement 47 = .ok (.athrow, 1) := by decide +kernel
theorem dX8_complement_48 : decode cX8_complement 48 = .ok (.aload_n 0, 1) := by decide +kernel
theorem dX8_complement_49 : decode cX8_complement 49 = .ok (.getfield 46, 3) := by decide +kernel
theorem dX8_complement_52 : decode cX8_complement 52 = .ok (.aload_n 0, 1) := by decide +kernel
theorem dX8_complement_53 : decode cX8_complement 53 = .ok (.getfield 12, 3) := by decide +kernel
theorem dX8_complement_56 : decode cX8_complement 56 = .ok (.getfield 82, 3) := by decide +kernel
theorem dX8_complement_59 : decode cX8_complement 59 = .ok (.iload_n 1, 1) := by decide +kernel
theorem dX8_complement_60 : decode cX8_complement 60 = .ok (.aaload, 1) := by decide +kernel
theorem dX8_complement_61 : decode cX8_complement 61 = .ok (.invokevirtual 194, 3) := by decide +kernel
theorem dX8_complement_64 : decode cX8_complement 64 = .ok (.aload_n 0, 1) := by decide +kernel
theorem dX8_complement_65 : decode cX8_complement 65 = .ok (.getfield 26, 3) := by decide +kernel
theorem dX8_complement_68 : decode cX8_complement 68 = .ok (.invokevirtual 121, 3) := by decide +kernel
theorem dX8_complement_71 : decode cX8_complement 71 = .ok (.iconst 0, 1) := by decide +kernel
theorem dX8_complement_72 : decode cX8_complement 72 = .ok (.istore_n 3, 1) := by decide +kernel
theorem dX8_complement_73 : decode cX8_complement 73 = .ok (.iload_n 3, 1) := by decide +kernel
theorem dX8_complement_74 : decode cX8_complement 74 = .ok (.aload_n 0, 1) := by decide +kernel
theorem dX8_complement_75 : decode cX8_complement 75 = .ok (.getfield 12, 3) := by decide +kernel
theorem dX8_complement_78 : decode cX8_complement 78 = .ok (.getfield 108, 3) := by decide +kernel
theorem dX8_complement_81 : decode cX8_complement 81 = .ok (.if_icmp .ge 28, 3) := by decide +kernel
theorem dX8_complement_84 : decode cX8_complement 84 = .ok (.aload_n 0, 1) := by decide +kernel
theorem dX8_complement_85 : decode cX8_complement 85 = .ok (.getfield 46, 3) := by decide +kernel
theorem dX8_complement_88 : decode cX8_complement 88 = .ok (.iload_n 3, 1) := by decide +kernel
theorem dX8_complement_89 : decode cX8_complement 89 = .ok (.invokevirtual 197, 3) := by decide +kernel
theorem dX8_complement_92 : decode cX8_complement 92 = .ok (.ifCond .ne 11, 3) := by decide +kernel
theorem dX8_complement_95 : decode cX8_complement 95 = .ok (.aload_n 0, 1) := by decide +kernel
theorem dX8_complement_96 : decode cX8_complement 96 = .ok (.getfield 26, 3) := by decide +kernel
theorem dX8_complement_99 : decode cX8_complement 99 = .ok (.iload_n 3, 1) := by decide +kernel
theorem dX8_complement_100 : decode cX8_complement 100 = .ok (.invokevirtual 200, 3) := by decide +kernel
theorem dX8_complement_103 : decode cX8_complement 103 = .ok (.iinc 3 1, 3) := by decide +kernel
theorem dX8_complement_106 : decode cX8_complement 106 = .ok (.goto (-33), 3) := by decide +kernel
theorem dX8_complement_109 : decode cX8_complement 109 = .ok (.aload_n 0, 1) := by decide +kernel
theorem dX8_complement_110 : decode cX8_complement 110 = .ok (.iload_n 2, 1) := by decide +kernel
theorem dX8_complement_111 : decode cX8_complement 111 = .ok (.aload_n 0, 1) := by decide +kernel
theorem dX8_complement_112 : decode cX8_complement 112 = .ok (.getfield 12, 3) := by decide +kernel
theorem dX8_complement_115 : decode cX8_complement 115 = .ok (.getfield 108, 3) := by decide +kernel
theorem dX8_complement_118 : decode cX8_complement 118 = .ok (.invokevirtual 111, 3) := by decide +kernel
theorem dX8_complement_121 : decode cX8_complement 121 = .ok (.aload_n 0, 1) := by decide +kernel
theorem dX8_complement_122 : decode cX8_complement 122 = .ok (.getfield 26, 3) := by decide +kernel
theorem dX8_complement_125 : decode cX8_complement 125 = .ok (.getfield 98, 3) := by decide +kernel
theorem dX8_complement_128 : decode cX8_complement 128 = .ok (.ireturn, 1) := by decide +kernel
theorem dX8_reflect_0 : decode cX8_reflect 0 = .ok (.iload_n 1, 1) := by decide +kernel
theorem dX8_reflect_1 : decode cX8_reflect 1 = .ok (.invokestatic 71, 3) := by decide +kernel
theorem dX8_reflect_4 : decode cX8_reflect 4 = .ok (.iload_n 2, 1) := by decide +kernel
theorem dX8_reflect_5 : decode cX8_reflect 5 = .ok (.invokestatic 71, 3) := by decide +kernel
theorem dX8_reflect_8 : decode cX8_reflect 8 = .ok (.aload_n 0, 1) := by decide +kernel
theorem dX8_reflect_9 : decode cX8_reflect 9 = .ok (.getfield 12, 3) := by decide +kernel
theorem dX8_reflect_12 : decode cX8_reflect 12 = .ok (.getfield 82, 3) := by decide +kernel
theorem dX8_reflect_15 : decode cX8_reflect 15 = .ok (.iload_n 1, 1) := by decide +kernel
theorem dX8_reflect_16 : decode cX8_reflect 16 = .ok (.aaload, 1) := by decide +kernel
theorem dX8_reflect_17 : decode cX8_reflect 17 = .ok (.astore_n 3, 1) := by decide +kernel
theorem dX8_reflect_18 : decode cX8_reflect 18 = .ok (.aload_n 0, 1) := by decide +kernel
theorem dX8_reflect_19 : decode cX8_reflect 19 = .ok (.getfield 26, 3) := by decide +kernel
theorem dX8_reflect_22 : decode cX8_reflect 22 = .ok (.invokevirtual 121, 3) := by decide +kernel
theorem dX8_reflect_25 : decode cX8_reflect 25 = .ok (.aload_n 3, 1) := by decide +kernel
theorem dX8_reflect_26 : decode cX8_reflect 26 = .ok (.getfield 98, 3) := by decide +kernel
theorem dX8_reflect_29 : decode cX8_reflect 29 = .ok (.iconst 1, 1) := by decide +kernel
theorem dX8_reflect_30 : decode cX8_reflect 30 = .ok (.isub, 1) := by decide +kernel
theorem dX8_reflect_31 : decode cX8_reflect 31 = .ok (.istore 4, 2) := by decide +kernel
theorem dX8_reflect_33 : decode cX8_reflect 33 = .ok (.iload 4, 2) := by decide +kernel
theorem dX8_reflect_35 : decode cX8_reflect 35 = .ok (.ifCond .lt 27, 3) := by decide +kernel
theorem dX8_reflect_38 : decode cX8_reflect 38 = .ok (.aload_n 0, 1) := by decide +kernel
theorem dX8_reflect_39 : decode cX8_reflect 39 = .ok (.getfield 26, 3) := by decide +kernel
theorem dX8_reflect_42 : decode cX8_reflect 42 = .ok (.aload_n 3, 1) := by decide +kernel
theorem dX8_reflect_43 : decode cX8_reflect 43 = .ok (.invokevirtual 203, 3) := by decide +kernel
theorem dX8_reflect_46 : decode cX8_reflect 46 = .ok (.aload_n 3, 1) := by decide +kernel
theorem dX8_reflect_47 : decode cX8_reflect 47 = .ok (.iload 4, 2) := by decide +kernel
theorem dX8_reflect_49 : decode cX8_reflect 49 = .ok (.invokevirtual 90, 3) := by decide +kernel
theorem dX8_reflect_52 : decode cX8_reflect 52 = .ok (.isub, 1) := by decide +kernel
theorem dX8_reflect_53 : decode cX8_reflect 53 = .ok (.invokevirtual 200, 3) := by decide +kernel
theorem dX8_reflect_56 : decode cX8_reflect 56 = .ok (.iinc 4 (-1), 3) := by decide +kernel
theorem dX8_reflect_59 : decode cX8_reflect 59 = .ok (.goto (-26), 3) := by decide +kernel
theorem dX8_reflect_62 : decode cX8_reflect 62 = .ok (.aload_n 0, 1) := by decide +kernel
theorem dX8_reflect_63 : decode cX8_reflect 63 = .ok (.iload_n 2, 1) := by decide +kernel
theorem dX8_reflect_64 : decode cX8_reflect 64 = .ok (.aload_n 0, 1) := by decide +kernel
theorem dX8_reflect_65 : decode cX8_reflect 65 = .ok (.getfield 12, 3) := by decide +kernel
theorem dX8_reflect_68 : decode cX8_reflect 68 = .ok (.getfield 108, 3) := by decide +kernel
theorem dX8_reflect_71 : decode cX8_reflect 71 = .ok (.invokevirtual 111, 3) := by decide +kernel
theorem dX8_reflect_74 : decode cX8_reflect 74 = .ok (.aload_n 0, 1) := by decide +kernel
theorem dX8_reflect_75 : decode cX8_reflect 75 = .ok (.getfield 26, 3) := by decide +kernel
theorem dX8_reflect_78 : decode cX8_reflect 78 = .ok (.getfield 98, 3) := by decide +kernel
theorem dX8_reflect_81 : decode cX8_reflect 81 = .ok (.ireturn, 1) := by decide +kernel
theorem dX8_multipliers_0 : decode cX8_multipliers 0 = .ok (.iload_n 1, 1) := by decide +kernel
theorem dX8_multipliers_1 : decode cX8_multipliers 1 = .ok (.invokestatic 71, 3) := by decide +kernel
theorem dX8_multipliers_4 : decode cX8_multipliers 4 = .ok (.aload_n 0, 1) := by decide +kernel
theorem dX8_multipliers_5 : decode cX8_multipliers 5 = .ok (.iload_n 1, 1) := by decide +kernel
theorem dX8_multipliers_6 : decode cX8_multipliers 6 = .ok (.invokevirtual 172, 3) := by decide +kernel
theorem dX8_multipliers_9 : decode cX8_multipliers 9 = .ok (.aload_n 0, 1) := by decide +kernel
theorem dX8_multipliers_10 : decode cX8_multipliers 10 = .ok (.aload_n 0, 1) := by decide +kernel
theorem dX8_multipliers_11 : decode cX8_multipliers 11 = .ok (.getfield 12, 3) := by decide +kernel
theorem dX8_multipliers_14 : decode cX8_multipliers 14 = .ok (.getfield 82, 3) := by decide +kernel
theorem dX8_multipliers_17 : decode cX8_multipliers 17 = .ok (.iload_n 1, 1) := by decide +kernel
theorem dX8_multipliers_18 : decode cX8_multipliers 18 = .ok (.aaload, 1) := by decide +kernel
theorem dX8_multipliers_19 : decode cX8_multipliers 19 = .ok (.invokevirtual 206, 3) := by decide +kernel
theorem dX8_multipliers_22 : decode cX8_multipliers 22 = .ok (.ireturn, 1) := by decide +kernel
theorem dX8_canonical_0 : decode cX8_canonical 0 = .ok (.iload_n 1, 1) := by decide +kernel
theorem dX8_canonical_1 : decode cX8_canonical 1 = .ok (.invokestatic 71, 3) := by decide +kernel
theorem dX8_canonical_4 : decode cX8_canonical 4 = .ok (.iload_n 2, 1) := by decide +kernel
theorem dX8_canonical_5 : decode cX8_canonical 5 = .ok (.invokestatic 71, 3) := by decide +kernel
theorem dX8_canonical_8 : decode cX8_canonical 8 = .ok (.aload_n 0, 1) := by decide +kernel
theorem dX8_canonical_9 : decode cX8_canonical 9 = .ok (.getfield 12, 3) := by decide +kernel
theorem dX8_canonical_12 : decode cX8_canonical 12 = .ok (.getfield 82, 3) := by decide +kernel
theorem dX8_canonical_15 : decode cX8_canonical 15 = .ok (.iload_n 1, 1) := by decide +kernel
theorem dX8_canonical_16 : decode cX8_canonical 16 = .ok (.aaload, 1) := by decide +kernel
theorem dX8_canonical_17 : decode cX8_canonical 17 = .ok (.getfield 98, 3) := by decide +kernel
theorem dX8_canonical_20 : decode cX8_canonical 20 = .ok (.ifCond .ne 13, 3) := by decide +kernel
theorem dX8_canonical_23 : decode cX8_canonical 23 = .ok (.new 93, 3) := by decide +kernel
theorem dX8_canonical_26 : decode cX8_canonical 26 = .ok (.dup, 1) := by decide +kernel
theorem dX8_canonical_27 : decode cX8_canonical 27 = .ok (.ldc 209, 2) := by decide +kernel
theorem dX8_canonical_29 : decode cX8_canonical 29 = .ok (.invokespecial 97, 3) := by decide +kernel
theorem dX8_canonical_32 : decode cX8_canonical 32 = .ok (.athrow, 1) := by decide +kernel
theorem dX8_canonical_33 : decode cX8_canonical 33 = .ok (.aload_n 0, 1) := by decide +kernel
theorem dX8_canonical_34 : decode cX8_canonical 34 = .ok (.iload_n 1, 1) := by decide +kernel
theorem dX8_canonical_35 : decode cX8_canonical 35 = .ok (.invokevirtual 172, 3) := by decide +kernel
theorem dX8_canonical_38 : decode cX8_canonical 38 = .ok (.aload_n 0, 1) := by decide +kernel
theorem dX8_canonical_39 : decode cX8_canonical 39 = .ok (.aload_n 0, 1) := by decide +kernel
theorem dX8_canonical_40 : decode cX8_canonical 40 = .ok (.getfield 12, 3) := by decide +kernel
theorem dX8_canonical_43 : decode cX8_canonical 43 = .ok (.getfield 82, 3) := by decide +kernel
theorem dX8_canonical_46 : decode cX8_canonical 46 = .ok (.iload_n 1, 1) := by decide +kernel
theorem dX8_canonical_47 : decode cX8_canonical 47 = .ok (.aaload, 1) := by decide +kernel
theorem dX8_canonical_48 : decode cX8_canonical 48 = .ok (.invokevirtual 211, 3) := by decide +kernel
theorem dX8_canonical_51 : decode cX8_canonical 51 = .ok (.aload_n 0, 1) := by decide +kernel
theorem dX8_canonical_52 : decode cX8_canonical 52 = .ok (.iload_n 2, 1) := by decide +kernel
theorem dX8_canonical_53 : decode cX8_canonical 53 = .ok (.aload_n 0, 1) := by decide +kernel
theorem dX8_canonical_54 : decode cX8_canonical 54 = .ok (.getfield 12, 3) := by decide +kernel
theorem dX8_canonical_57 : decode cX8_canonical 57 = .ok (.getfield 108, 3) := by decide +kernel
theorem dX8_canonical_60 : decode cX8_canonical 60 = .ok (.invokevirtual 111, 3) := by decide +kernel
theorem dX8_canonical_63 : decode cX8_canonical 63 = .ok (.aload_n 0, 1) := by decide +kernel
theorem dX8_canonical_64 : decode cX8_canonical 64 = .ok (.getfield 26, 3) := by decide +kernel
theorem dX8_canonical_67 : decode cX8_canonical 67 = .ok (.getfield 98, 3) := by decide +kernel
theorem dX8_canonical_70 : decode cX8_canonical 70 = .ok (.ireturn, 1) := by decide +kernel
theorem dX8_erdosTuran_0 : decode cX8_erdosTuran 0 = .ok (.iload_n 2, 1) := by decide +kernel
theorem dX8_erdosTuran_1 : decode cX8_erdosTuran 1 = .ok (.invokestatic 71, 3) := by decide +kernel
theorem dX8_erdosTuran_4 : decode cX8_erdosTuran 4 = .ok (.iload_n 1, 1) := by decide +kernel
theorem dX8_erdosTuran_5 : decode cX8_erdosTuran 5 = .ok (.invokestatic 214, 3) := by decide +kernel
theorem dX8_erdosTuran_8 : decode cX8_erdosTuran 8 = .ok (.aload_n 0, 1) := by decide +kernel
theorem dX8_erdosTuran_9 : decode cX8_erdosTuran 9 = .ok (.getfield 26, 3) := by decide +kernel
theorem dX8_erdosTuran_12 : decode cX8_erdosTuran 12 = .ok (.invokevirtual 121, 3) := by decide +kernel
theorem dX8_erdosTuran_15 : decode cX8_erdosTuran 15 = .ok (.iconst 0, 1) := by decide +kernel
theorem dX8_erdosTuran_16 : decode cX8_erdosTuran 16 = .ok (.istore_n 3, 1) := by decide +kernel
theorem dX8_erdosTuran_17 : decode cX8_erdosTuran 17 = .ok (.iload_n 3, 1) := by decide +kernel
theorem dX8_erdosTuran_18 : decode cX8_erdosTuran 18 = .ok (.iload_n 1, 1) := by decide +kernel
theorem dX8_erdosTuran_19 : decode cX8_erdosTuran 19 = .ok (.if_icmp .ge 29, 3) := by decide +kernel
theorem dX8_erdosTuran_22 : decode cX8_erdosTuran 22 = .ok (.aload_n 0, 1) := by decide +kernel
theorem dX8_erdosTuran_23 : decode cX8_erdosTuran 23 = .ok (.getfield 26, 3) := by decide +kernel
theorem dX8_erdosTuran_26 : decode cX8_erdosTuran 26 = .ok (.iconst 2, 1) := by decide +kernel
theorem dX8_erdosTuran_27 : decode cX8_erdosTuran 27 = .ok (.iload_n 1, 1) := by decide +kernel
theorem dX8_erdosTuran_28 : decode cX8_erdosTuran 28 = .ok (.imul, 1) := by decide +kernel
theorem dX8_erdosTuran_29 : decode cX8_erdosTuran 29 = .ok (.iload_n 3, 1) := by decide +kernel
theorem dX8_erdosTuran_30 : decode cX8_erdosTuran 30 = .ok (.imul, 1) := by decide +kernel
theorem dX8_erdosTuran_31 : decode cX8_erdosTuran 31 = .ok (.iload_n 3, 1) := by decide +kernel
theorem dX8_erdosTuran_32 : decode cX8_erdosTuran 32 = .ok (.iload_n 3, 1) := by decide +kernel
theorem dX8_erdosTuran_33 : decode cX8_erdosTuran 33 = .ok (.imul, 1) := by decide +kernel
theorem dX8_erdosTuran_34 : decode cX8_erdosTuran 34 = .ok (.iload_n 1, 1) := by decide +kernel
theorem dX8_erdosTuran_35 : decode cX8_erdosTuran 35 = .ok (.invokestatic 217, 3) := by decide +kernel
theorem dX8_erdosTuran_38 : decode cX8_erdosTuran 38 = .ok (.iadd, 1) := by decide +kernel
theorem dX8_erdosTuran_39 : decode cX8_erdosTuran 39 = .ok (.invokevirtual 200, 3) := by decide +kernel
theorem dX8_erdosTuran_42 : decode cX8_erdosTuran 42 = .ok (.iinc 3 1, 3) := by decide +kernel
theorem dX8_erdosTuran_45 : decode cX8_erdosTuran 45 = .ok (.goto (-28), 3) := by decide +kernel
theorem dX8_erdosTuran_48 : decode cX8_erdosTuran 48 = .ok (.aload_n 0, 1) := by decide +kernel
theorem dX8_erdosTuran_49 : decode cX8_erdosTuran 49 = .ok (.iload_n 2, 1) := by decide +kernel
theorem dX8_erdosTuran_50 : decode cX8_erdosTuran 50 = .ok (.aload_n 0, 1) := by decide +kernel
theorem dX8_erdosTuran_51 : decode cX8_erdosTuran 51 = .ok (.getfield 12, 3) := by decide +kernel
theorem dX8_erdosTuran_54 : decode cX8_erdosTuran 54 = .ok (.getfield 108, 3) := by decide +kernel
theorem dX8_erdosTuran_57 : decode cX8_erdosTuran 57 = .ok (.invokevirtual 111, 3) := by decide +kernel
theorem dX8_erdosTuran_60 : decode cX8_erdosTuran 60 = .ok (.aload_n 0, 1) := by decide +kernel
theorem dX8_erdosTuran_61 : decode cX8_erdosTuran 61 = .ok (.getfield 26, 3) := by decide +kernel
theorem dX8_erdosTuran_64 : decode cX8_erdosTuran 64 = .ok (.invokevirtual 133, 3) := by decide +kernel
theorem dX8_erdosTuran_67 : decode cX8_erdosTuran 67 = .ok (.ireturn, 1) := by decide +kernel
theorem dX8_ruzsa_0 : decode cX8_ruzsa 0 = .ok (.iload_n 3, 1) := by decide +kernel
theorem dX8_ruzsa_1 : decode cX8_ruzsa 1 = .ok (.invokestatic 71, 3) := by decide +kernel
theorem dX8_ruzsa_4 : decode cX8_ruzsa 4 = .ok (.iload_n 1, 1) := by decide +kernel
theorem dX8_ruzsa_5 : decode cX8_ruzsa 5 = .ok (.invokestatic 214, 3) := by decide +kernel
theorem dX8_ruzsa_8 : decode cX8_ruzsa 8 = .ok (.iload_n 2, 1) := by decide +kernel
theorem dX8_ruzsa_9 : decode cX8_ruzsa 9 = .ok (.iload_n 1, 1) := by decide +kernel
theorem dX8_ruzsa_10 : decode cX8_ruzsa 10 = .ok (.invokestatic 221, 3) := by decide +kernel
theorem dX8_ruzsa_13 : decode cX8_ruzsa 13 = .ok (.ifCond .ne 13, 3) := by decide +kernel
theorem dX8_ruzsa_16 : decode cX8_ruzsa 16 = .ok (.new 75, 3) := by decide +kernel
theorem dX8_ruzsa_19 : decode cX8_ruzsa 19 = .ok (.dup, 1) := by decide +kernel
theorem dX8_ruzsa_20 : decode cX8_ruzsa 20 = .ok (.ldc 224, 2) := by decide +kernel
theorem dX8_ruzsa_22 : decode cX8_ruzsa 22 = .ok (.invokespecial 79, 3) := by decide +kernel
theorem dX8_ruzsa_25 : decode cX8_ruzsa 25 = .ok (.athrow, 1) := by decide +kernel
theorem dX8_ruzsa_26 : decode cX8_ruzsa 26 = .ok (.iload_n 1, 1) := by decide +kernel
theorem dX8_ruzsa_27 : decode cX8_ruzsa 27 = .ok (.iload_n 1, 1) := by decide +kernel
theorem dX8_ruzsa_28 : decode cX8_ruzsa 28 = .ok (.iconst 1, 1) := by decide +kernel
theorem dX8_ruzsa_29 : decode cX8_ruzsa 29 = .ok (.isub, 1) := by decide +kernel
theorem dX8_ruzsa_30 : decode cX8_ruzsa 30 = .ok (.imul, 1) := by decide +kernel
theorem dX8_ruzsa_31 : decode cX8_ruzsa 31 = .ok (.istore 4, 2) := by decide +kernel
theorem dX8_ruzsa_33 : decode cX8_ruzsa 33 = .ok (.iconst 1, 1) := by decide +kernel
theorem dX8_ruzsa_34 : decode cX8_ruzsa 34 = .ok (.istore 5, 2) := by decide +kernel
theorem dX8_ruzsa_36 : decode cX8_ruzsa 36 = .ok (.aload_n 0, 1) := by decide +kernel
theorem dX8_ruzsa_37 : decode cX8_ruzsa 37 = .ok (.getfield 46, 3) := by decide +kernel
theorem dX8_ruzsa_40 : decode cX8_ruzsa 40 = .ok (.invokevirtual 226, 3) := by decide +kernel
theorem dX8_ruzsa_43 : decode cX8_ruzsa 43 = .ok (.iconst 1, 1) := by decide +kernel
theorem dX8_ruzsa_44 : decode cX8_ruzsa 44 = .ok (.istore 6, 2) := by decide +kernel
theorem dX8_ruzsa_46 : decode cX8_ruzsa 46 = .ok (.iload 6, 2) := by decide +kernel
theorem dX8_ruzsa_48 : decode cX8_ruzsa 48 = .ok (.iload_n 1, 1) := by decide +kernel
theorem dX8_ruzsa_49 : decode cX8_ruzsa 49 = .ok (.if_icmp .ge 42, 3) := by decide +kernel
theorem dX8_ruzsa_52 : decode cX8_ruzsa 52 = .ok (.iload 5, 2) := by decide +kernel
theorem dX8_ruzsa_54 : decode cX8_ruzsa 54 = .ok (.iload_n 2, 1) := by decide +kernel
theorem dX8_ruzsa_55 : decode cX8_ruzsa 55 = .ok (.imul, 1) := by decide +kernel
theorem dX8_ruzsa_56 : decode cX8_ruzsa 56 = .ok (.iload_n 1, 1) := by decide +kernel
theorem dX8_ruzsa_57 : decode cX8_ruzsa 57 = .ok (.invokestatic 217, 3) := by decide +kernel
theorem dX8_ruzsa_60 : decode cX8_ruzsa 60 = .ok (.istore 5, 2) := by decide +kernel
theorem dX8_ruzsa_62 : decode cX8_ruzsa 62 = .ok (.aload_n 0, 1) := by decide +kernel
theorem dX8_ruzsa_63 : decode cX8_ruzsa 63 = .ok (.getfield 46, 3) := by decide +kernel
theorem dX8_ruzsa_66 : decode cX8_ruzsa 66 = .ok (.iload_n 1, 1) := by decide +kernel
theorem dX8_ruzsa_67 : decode cX8_ruzsa 67 = .ok (.iload 6, 2) := by decide +kernel
theorem dX8_ruzsa_69 : decode cX8_ruzsa 69 = .ok (.imul, 1) := by decide +kernel
theorem dX8_ruzsa_70 : decode cX8_ruzsa 70 = .ok (.iload_n 1, 1) := by decide +kernel
theorem dX8_ruzsa_71 : decode cX8_ruzsa 71 = .ok (.iconst 1, 1) := by decide +kernel
theorem dX8_ruzsa_72 : decode cX8_ruzsa 72 = .ok (.isub, 1) := by decide +kernel
theorem dX8_ruzsa_73 : decode cX8_ruzsa 73 = .ok (.iload 5, 2) := by decide +kernel
theorem dX8_ruzsa_75 : decode cX8_ruzsa 75 = .ok (.imul, 1) := by decide +kernel
theorem dX8_ruzsa_76 : decode cX8_ruzsa 76 = .ok (.iadd, 1) := by decide +kernel
theorem dX8_ruzsa_77 : decode cX8_ruzsa 77 = .ok (.iload 4, 2) := by decide +kernel
theorem dX8_ruzsa_79 : decode cX8_ruzsa 79 = .ok (.invokestatic 217, 3) := by decide +kernel
theorem dX8_ruzsa_82 : decode cX8_ruzsa 82 = .ok (.invokevirtual 229, 3) := by decide +kernel
theorem dX8_ruzsa_85 : decode cX8_ruzsa 85 = .ok (.iinc 6 1, 3) := by decide +kernel
theorem dX8_ruzsa_88 : decode cX8_ruzsa 88 = .ok (.goto (-42), 3) := by decide +kernel
theorem dX8_ruzsa_91 : decode cX8_ruzsa 91 = .ok (.aload_n 0, 1) := by decide +kernel
theorem dX8_ruzsa_92 : decode cX8_ruzsa 92 = .ok (.getfield 46, 3) := by decide +kernel
theorem dX8_ruzsa_95 : decode cX8_ruzsa 95 = .ok (.aload_n 0, 1) := by decide +kernel
theorem dX8_ruzsa_96 : decode cX8_ruzsa 96 = .ok (.getfield 26, 3) := by decide +kernel
theorem dX8_ruzsa_99 : decode cX8_ruzsa 99 = .ok (.invokevirtual 232, 3) := by decide +kernel
theorem dX8_ruzsa_102 : decode cX8_ruzsa 102 = .ok (.aload_n 0, 1) := by decide +kernel
theorem dX8_ruzsa_103 : decode cX8_ruzsa 103 = .ok (.iload_n 3, 1) := by decide +kernel
theorem dX8_ruzsa_104 : decode cX8_ruzsa 104 = .ok (.iload 4, 2) := by decide +kernel
theorem dX8_ruzsa_106 : decode cX8_ruzsa 106 = .ok (.invokevirtual 111, 3) := by decide +kernel
theorem dX8_ruzsa_109 : decode cX8_ruzsa 109 = .ok (.aload_n 0, 1) := by decide +kernel
theorem dX8_ruzsa_110 : decode cX8_ruzsa 110 = .ok (.getfield 26, 3) := by decide +kernel
theorem dX8_ruzsa_113 : decode cX8_ruzsa 113 = .ok (.invokevirtual 133, 3) := by decide +kernel
theorem dX8_ruzsa_116 : decode cX8_ruzsa 116 = .ok (.ireturn, 1) := by decide +kernel
theorem dX8_residues_0 : decode cX8_residues 0 = .ok (.iload_n 2, 1) := by decide +kernel
theorem dX8_residues_1 : decode cX8_residues 1 = .ok (.invokestatic 71, 3) := by decide +kernel
theorem dX8_residues_4 : decode cX8_residues 4 = .ok (.iload_n 1, 1) := by decide +kernel
theorem dX8_residues_5 : decode cX8_residues 5 = .ok (.invokestatic 214, 3) := by decide +kernel
theorem dX8_residues_8 : decode cX8_residues 8 = .ok (.aload_n 0, 1) := by decide +kernel
theorem dX8_residues_9 : decode cX8_residues 9 = .ok (.getfield 46, 3) := by decide +kernel
theorem dX8_residues_12 : decode cX8_residues 12 = .ok (.invokevirtual 226, 3) := by decide +kernel
theorem dX8_residues_15 : decode cX8_residues 15 = .ok (.iconst 1, 1) := by decide +kernel
theorem dX8_residues_16 : decode cX8_residues 16 = .ok (.istore_n 3, 1) := by decide +kernel
theorem dX8_residues_17 : decode cX8_residues 17 = .ok (.iload_n 3, 1) := by decide +kernel
theorem dX8_residues_18 : decode cX8_residues 18 = .ok (.iload_n 1, 1) := by decide +kernel
theorem dX8_residues_19 : decode cX8_residues 19 = .ok (.if_icmp .ge 23, 3) := by decide +kernel
theorem dX8_residues_22 : decode cX8_residues 22 = .ok (.aload_n 0, 1) := by decide +kernel
theorem dX8_residues_23 : decode cX8_residues 23 = .ok (.getfield 46, 3) := by decide +kernel
theorem dX8_residues_26 : decode cX8_residues 26 = .ok (.iload_n 3, 1) := by decide +kernel
theorem dX8_residues_27 : decode cX8_residues 27 = .ok (.iload_n 3, 1) := by decide +kernel
theorem dX8_residues_28 : decode cX8_residues 28 = .ok (.imul, 1) := by decide +kernel
theorem dX8_residues_29 : decode cX8_residues 29 = .ok (.iload_n 1, 1) := by decide +kernel
theorem dX8_residues_30 : decode cX8_residues 30 = .ok (.invokestatic 217, 3) := by decide +kernel
theorem dX8_residues_33 : decode cX8_residues 33 = .ok (.invokevirtual 229, 3) := by decide +kernel
theorem dX8_residues_36 : decode cX8_residues 36 = .ok (.iinc 3 1, 3) := by decide +kernel
theorem dX8_residues_39 : decode cX8_residues 39 = .ok (.goto (-22), 3) := by decide +kernel
theorem dX8_residues_42 : decode cX8_residues 42 = .ok (.aload_n 0, 1) := by decide +kernel
theorem dX8_residues_43 : decode cX8_residues 43 = .ok (.getfield 46, 3) := by decide +kernel
theorem dX8_residues_46 : decode cX8_residues 46 = .ok (.aload_n 0, 1) := by decide +kernel
theorem dX8_residues_47 : decode cX8_residues 47 = .ok (.getfield 26, 3) := by decide +kernel
theorem dX8_residues_50 : decode cX8_residues 50 = .ok (.invokevirtual 232, 3) := by decide +kernel
theorem dX8_residues_53 : decode cX8_residues 53 = .ok (.aload_n 0, 1) := by decide +kernel
theorem dX8_residues_54 : decode cX8_residues 54 = .ok (.iload_n 2, 1) := by decide +kernel
theorem dX8_residues_55 : decode cX8_residues 55 = .ok (.iload_n 1, 1) := by decide +kernel
theorem dX8_residues_56 : decode cX8_residues 56 = .ok (.invokevirtual 111, 3) := by decide +kernel
theorem dX8_residues_59 : decode cX8_residues 59 = .ok (.aload_n 0, 1) := by decide +kernel
theorem dX8_residues_60 : decode cX8_residues 60 = .ok (.getfield 26, 3) := by decide +kernel
theorem dX8_residues_63 : decode cX8_residues 63 = .ok (.getfield 98, 3) := by decide +kernel
theorem dX8_residues_66 : decode cX8_residues 66 = .ok (.ireturn, 1) := by decide +kernel
theorem dX8_extend_0 : decode cX8_extend 0 = .ok (.iload_n 1, 1) := by decide +kernel
theorem dX8_extend_1 : decode cX8_extend 1 = .ok (.invokestatic 71, 3) := by decide +kernel
theorem dX8_extend_4 : decode cX8_extend 4 = .ok (.iload_n 2, 1) := by decide +kernel
theorem dX8_extend_5 : decode cX8_extend 5 = .ok (.iconst 1, 1) := by decide +kernel
theorem dX8_extend_6 : decode cX8_extend 6 = .ok (.if_icmp .lt 9, 3) := by decide +kernel
theorem dX8_extend_9 : decode cX8_extend 9 = .ok (.iload_n 2, 1) := by decide +kernel
theorem dX8_extend_10 : decode cX8_extend 10 = .ok (.bipush 24, 2) := by decide +kernel
theorem dX8_extend_12 : decode cX8_extend 12 = .ok (.if_icmp .le 13, 3) := by decide +kernel
theorem dX8_extend_15 : decode cX8_extend 15 = .ok (.new 75, 3) := by decide +kernel
theorem dX8_extend_18 : decode cX8_extend 18 = .ok (.dup, 1) := by decide +kernel
theorem dX8_extend_19 : decode cX8_extend 19 = .ok (.ldc 235, 2) := by decide +kernel
theorem dX8_extend_21 : decode cX8_extend 21 = .ok (.invokespecial 79, 3) := by decide +kernel
theorem dX8_extend_24 : decode cX8_extend 24 = .ok (.athrow, 1) := by decide +kernel
theorem dX8_extend_25 : decode cX8_extend 25 = .ok (.aload_n 0, 1) := by decide +kernel
theorem dX8_extend_26 : decode cX8_extend 26 = .ok (.iload_n 1, 1) := by decide +kernel
theorem dX8_extend_27 : decode cX8_extend 27 = .ok (.invokevirtual 142, 3) := by decide +kernel
theorem dX8_extend_30 : decode cX8_extend 30 = .ok (.getfield 146, 3) := by decide +kernel
theorem dX8_extend_33 : decode cX8_extend 33 = .ok (.ifCond .ne 13, 3) := by decide +kernel
theorem dX8_extend_36 : decode cX8_extend 36 = .ok (.new 93, 3) := by decide +kernel
theorem dX8_extend_39 : decode cX8_extend 39 = .ok (.dup, 1) := by decide +kernel
theorem dX8_extend_40 : decode cX8_extend 40 = .ok (.ldc 237, 2) := by decide +kernel
theorem dX8_extend_42 : decode cX8_extend 42 = .ok (.invokespecial 97, 3) := by decide +kernel
theorem dX8_extend_45 : decode cX8_extend 45 = .ok (.athrow, 1) := by decide +kernel
theorem dX8_extend_46 : decode cX8_extend 46 = .ok (.aload_n 0, 1) := by decide +kernel
theorem dX8_extend_47 : decode cX8_extend 47 = .ok (.getfield 12, 3) := by decide +kernel
theorem dX8_extend_50 : decode cX8_extend 50 = .ok (.getfield 82, 3) := by decide +kernel
theorem dX8_extend_53 : decode cX8_extend 53 = .ok (.iload_n 1, 1) := by decide +kernel
theorem dX8_extend_54 : decode cX8_extend 54 = .ok (.aaload, 1) := by decide +kernel
theorem dX8_extend_55 : decode cX8_extend 55 = .ok (.getfield 98, 3) := by decide +kernel
theorem dX8_extend_58 : decode cX8_extend 58 = .ok (.iload_n 2, 1) := by decide +kernel
theorem dX8_extend_59 : decode cX8_extend 59 = .ok (.if_icmp .le 13, 3) := by decide +kernel
theorem dX8_extend_62 : decode cX8_extend 62 = .ok (.new 93, 3) := by decide +kernel
theorem dX8_extend_65 : decode cX8_extend 65 = .ok (.dup, 1) := by decide +kernel
theorem dX8_extend_66 : decode cX8_extend 66 = .ok (.ldc 239, 2) := by decide +kernel
theorem dX8_extend_68 : decode cX8_extend 68 = .ok (.invokespecial 97, 3) := by decide +kernel
theorem dX8_extend_71 : decode cX8_extend 71 = .ok (.athrow, 1) := by decide +kernel
theorem dX8_extend_72 : decode cX8_extend 72 = .ok (.aload_n 0, 1) := by decide +kernel
theorem dX8_extend_73 : decode cX8_extend 73 = .ok (.aload_n 0, 1) := by decide +kernel
theorem dX8_extend_74 : decode cX8_extend 74 = .ok (.getfield 12, 3) := by decide +kernel
theorem dX8_extend_77 : decode cX8_extend 77 = .ok (.getfield 82, 3) := by decide +kernel
theorem dX8_extend_80 : decode cX8_extend 80 = .ok (.iload_n 1, 1) := by decide +kernel
theorem dX8_extend_81 : decode cX8_extend 81 = .ok (.aaload, 1) := by decide +kernel
theorem dX8_extend_82 : decode cX8_extend 82 = .ok (.aload_n 0, 1) := by decide +kernel
theorem dX8_extend_83 : decode cX8_extend 83 = .ok (.getfield 52, 3) := by decide +kernel
theorem dX8_extend_86 : decode cX8_extend 86 = .ok (.iload_n 1, 1) := by decide +kernel
theorem dX8_extend_87 : decode cX8_extend 87 = .ok (.aaload, 1) := by decide +kernel
theorem dX8_extend_88 : decode cX8_extend 88 = .ok (.iload_n 2, 1) := by decide +kernel
theorem dX8_extend_89 : decode cX8_extend 89 = .ok (.invokevirtual 241, 3) := by decide +kernel
theorem dX8_extend_92 : decode cX8_extend 92 = .ok (.ifCond .ne 13, 3) := by decide +kernel
theorem dX8_extend_95 : decode cX8_extend 95 = .ok (.new 93, 3) := by decide +kernel
theorem dX8_extend_98 : decode cX8_extend 98 = .ok (.dup, 1) := by decide +kernel
theorem dX8_extend_99 : decode cX8_extend 99 = .ok (.ldc 245, 2) := by decide +kernel
theorem dX8_extend_101 : decode cX8_extend 101 = .ok (.invokespecial 97, 3) := by decide +kernel
theorem dX8_extend_104 : decode cX8_extend 104 = .ok (.athrow, 1) := by decide +kernel
