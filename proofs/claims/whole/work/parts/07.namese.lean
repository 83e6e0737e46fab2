theorem dX9_residues_48 : decode cX9_residues 48 = .ok (.iload_n 3, 1) := by decide +kernel
theorem dX9_residues_49 : decode cX9_residues 49 = .ok (.iload_n 3, 1) := by decide +kernel
theorem dX9_residues_50 : decode cX9_residues 50 = .ok (.imul, 1) := by decide +kernel
theorem dX9_residues_51 : decode cX9_residues 51 = .ok (.iload_n 1, 1) := by decide +kernel
theorem dX9_residues_52 : decode cX9_residues 52 = .ok (.irem, 1) := by decide +kernel
theorem dX9_residues_53 : decode cX9_residues 53 = .ok (.invokevirtual 57, 3) := by decide +kernel
theorem dX9_residues_56 : decode cX9_residues 56 = .ok (.iinc 3 1, 3) := by decide +kernel
theorem dX9_residues_59 : decode cX9_residues 59 = .ok (.goto (-17), 3) := by decide +kernel
theorem dX9_residues_62 : decode cX9_residues 62 = .ok (.aload_n 0, 1) := by decide +kernel
theorem dX9_residues_63 : decode cX9_residues 63 = .ok (.getfield 7, 3) := by decide +kernel
theorem dX9_residues_66 : decode cX9_residues 66 = .ok (.iconst 0, 1) := by decide +kernel
theorem dX9_residues_67 : decode cX9_residues 67 = .ok (.iload_n 1, 1) := by decide +kernel
theorem dX9_residues_68 : decode cX9_residues 68 = .ok (.iastore, 1) := by decide +kernel
theorem dX9_residues_69 : decode cX9_residues 69 = .ok (.aload_n 0, 1) := by decide +kernel
theorem dX9_residues_70 : decode cX9_residues 70 = .ok (.iload_n 2, 1) := by decide +kernel
theorem dX9_residues_71 : decode cX9_residues 71 = .ok (.invokevirtual 74, 3) := by decide +kernel
theorem dX9_residues_74 : decode cX9_residues 74 = .ok (.ireturn, 1) := by decide +kernel
theorem dX9_mayCome_0 : decode cX9_mayCome 0 = .ok (.iconst 1, 1) := by decide +kernel
theorem dX9_mayCome_1 : decode cX9_mayCome 1 = .ok (.istore_n 2, 1) := by decide +kernel
theorem dX9_mayCome_2 : decode cX9_mayCome 2 = .ok (.iconst 0, 1) := by decide +kernel
theorem dX9_mayCome_3 : decode cX9_mayCome 3 = .ok (.istore_n 3, 1) := by decide +kernel
theorem dX9_mayCome_4 : decode cX9_mayCome 4 = .ok (.iload_n 3, 1) := by decide +kernel
theorem dX9_mayCome_5 : decode cX9_mayCome 5 = .ok (.aload_n 0, 1) := by decide +kernel
theorem dX9_mayCome_6 : decode cX9_mayCome 6 = .ok (.getfield 43, 3) := by decide +kernel
theorem dX9_mayCome_9 : decode cX9_mayCome 9 = .ok (.if_icmp .ge 35, 3) := by decide +kernel
theorem dX9_mayCome_12 : decode cX9_mayCome 12 = .ok (.iload_n 2, 1) := by decide +kernel
theorem dX9_mayCome_13 : decode cX9_mayCome 13 = .ok (.ifCond .eq 23, 3) := by decide +kernel
theorem dX9_mayCome_16 : decode cX9_mayCome 16 = .ok (.aload_n 0, 1) := by decide +kernel
theorem dX9_mayCome_17 : decode cX9_mayCome 17 = .ok (.getfield 19, 3) := by decide +kernel
theorem dX9_mayCome_20 : decode cX9_mayCome 20 = .ok (.iload_n 1, 1) := by decide +kernel
theorem dX9_mayCome_21 : decode cX9_mayCome 21 = .ok (.aload_n 0, 1) := by decide +kernel
theorem dX9_mayCome_22 : decode cX9_mayCome 22 = .ok (.getfield 16, 3) := by decide +kernel
theorem dX9_mayCome_25 : decode cX9_mayCome 25 = .ok (.iload_n 3, 1) := by decide +kernel
theorem dX9_mayCome_26 : decode cX9_mayCome 26 = .ok (.iaload, 1) := by decide +kernel
theorem dX9_mayCome_27 : decode cX9_mayCome 27 = .ok (.isub, 1) := by decide +kernel
theorem dX9_mayCome_28 : decode cX9_mayCome 28 = .ok (.iaload, 1) := by decide +kernel
theorem dX9_mayCome_29 : decode cX9_mayCome 29 = .ok (.ifCond .ne 7, 3) := by decide +kernel
theorem dX9_mayCome_32 : decode cX9_mayCome 32 = .ok (.iconst 1, 1) := by decide +kernel
theorem dX9_mayCome_33 : decode cX9_mayCome 33 = .ok (.goto 4, 3) := by decide +kernel
theorem dX9_mayCome_36 : decode cX9_mayCome 36 = .ok (.iconst 0, 1) := by decide +kernel
theorem dX9_mayCome_37 : decode cX9_mayCome 37 = .ok (.istore_n 2, 1) := by decide +kernel
theorem dX9_mayCome_38 : decode cX9_mayCome 38 = .ok (.iinc 3 1, 3) := by decide +kernel
theorem dX9_mayCome_41 : decode cX9_mayCome 41 = .ok (.goto (-37), 3) := by decide +kernel
theorem dX9_mayCome_44 : decode cX9_mayCome 44 = .ok (.iload_n 2, 1) := by decide +kernel
theorem dX9_mayCome_45 : decode cX9_mayCome 45 = .ok (.ireturn, 1) := by decide +kernel
set_option maxRecDepth 20000 in
theorem ggX9_extendsTo_X9_laysOften : GoodIn wsX9_extendsTo wsX9_laysOften := goodIn_r _ [8, 3, 9, 10, 11, 7, 12, 13, 14, 15, 16, 17, 18, 19, 20, 21, 38, 39, 40, 41, 42, 43, 44, 45, 46, 47] (by decide +kernel) (by decide +kernel)
set_option maxRecDepth 20000 in
theorem gX9_extendsTo_X9_laysOften : GoodIn wsX9_extendsTo (wsV RX9 86 RX9 yX9_laysOften wsX9_laysOften) := goodIn_app (goodIn_of _ (by decide +kernel)) ggX9_extendsTo_X9_laysOften
set_option maxRecDepth 20000 in
theorem ggX9_extendsTo_X9_takes : GoodIn wsX9_extendsTo wsX9_takes := goodIn_r _ [25, 26, 27, 28, 7, 29, 1, 13, 14, 15, 16, 17, 18, 19, 20, 21, 30, 31, 32, 33, 2, 38, 39, 40, 41, 42, 43, 44, 45, 46, 47] (by decide +kernel) (by decide +kernel)
set_option maxRecDepth 20000 in
theorem gX9_extendsTo_X9_takes : GoodIn wsX9_extendsTo (wsV RX9 70 RX9 yX9_takes wsX9_takes) := goodIn_app (goodIn_of _ (by decide +kernel)) ggX9_extendsTo_X9_takes
set_option maxRecDepth 20000 in
theorem ggX9_extendsTo_X9_comes : GoodIn wsX9_extendsTo wsX9_comes := goodIn_r _ [33, 1, 2, 38, 39, 40, 41, 42, 43, 44, 45, 46, 47] (by decide +kernel) (by decide +kernel)
set_option maxRecDepth 20000 in
theorem gX9_extendsTo_X9_comes : GoodIn wsX9_extendsTo (wsV RX9 57 RX9 yX9_comes wsX9_comes) := goodIn_app (goodIn_of _ (by decide +kernel)) ggX9_extendsTo_X9_comes
set_option maxRecDepth 20000 in
theorem ggX9_extendsTo_X9_mayCome : GoodIn wsX9_extendsTo wsX9_mayCome := goodIn_r _ [37, 1, 3, 2, 38, 39, 40, 41, 42, 43, 44, 45, 46, 47] (by decide +kernel) (by decide +kernel)
set_option maxRecDepth 20000 in
theorem gX9_extendsTo_X9_mayCome : GoodIn wsX9_extendsTo (wsV RX9 143 RX9 yX9_mayCome wsX9_mayCome) := goodIn_app (goodIn_of _ (by decide +kernel)) ggX9_extendsTo_X9_mayCome
theorem dX9_extendsTo_0 : decode cX9_extendsTo 0 = .ok (.aload_n 0, 1) := by decide +kernel
theorem dX9_extendsTo_1 : decode cX9_extendsTo 1 = .ok (.iconst 1, 1) := by decide +kernel
theorem dX9_extendsTo_2 : decode cX9_extendsTo 2 = .ok (.iload_n 1, 1) := by decide +kernel
theorem dX9_extendsTo_3 : decode cX9_extendsTo 3 = .ok (.ishl, 1) := by decide +kernel
theorem dX9_extendsTo_4 : decode cX9_extendsTo 4 = .ok (.invokevirtual 86, 3) := by decide +kernel
theorem dX9_extendsTo_7 : decode cX9_extendsTo 7 = .ok (.aload_n 0, 1) := by decide +kernel
theorem dX9_extendsTo_8 : decode cX9_extendsTo 8 = .ok (.iload_n 1, 1) := by decide +kernel
theorem dX9_extendsTo_9 : decode cX9_extendsTo 9 = .ok (.iconst (-1), 1) := by decide +kernel
theorem dX9_extendsTo_10 : decode cX9_extendsTo 10 = .ok (.invokevirtual 70, 3) := by decide +kernel
theorem dX9_extendsTo_13 : decode cX9_extendsTo 13 = .ok (.aload_n 0, 1) := by decide +kernel
theorem dX9_extendsTo_14 : decode cX9_extendsTo 14 = .ok (.getfield 43, 3) := by decide +kernel
theorem dX9_extendsTo_17 : decode cX9_extendsTo 17 = .ok (.ifCond .ne 8, 3) := by decide +kernel
theorem dX9_extendsTo_20 : decode cX9_extendsTo 20 = .ok (.aload_n 0, 1) := by decide +kernel
theorem dX9_extendsTo_21 : decode cX9_extendsTo 21 = .ok (.iconst 0, 1) := by decide +kernel
theorem dX9_extendsTo_22 : decode cX9_extendsTo 22 = .ok (.invokevirtual 57, 3) := by decide +kernel
theorem dX9_extendsTo_25 : decode cX9_extendsTo 25 = .ok (.aload_n 0, 1) := by decide +kernel
theorem dX9_extendsTo_26 : decode cX9_extendsTo 26 = .ok (.getfield 16, 3) := by decide +kernel
theorem dX9_extendsTo_29 : decode cX9_extendsTo 29 = .ok (.aload_n 0, 1) := by decide +kernel
theorem dX9_extendsTo_30 : decode cX9_extendsTo 30 = .ok (.getfield 43, 3) := by decide +kernel
theorem dX9_extendsTo_33 : decode cX9_extendsTo 33 = .ok (.iconst 1, 1) := by decide +kernel
theorem dX9_extendsTo_34 : decode cX9_extendsTo 34 = .ok (.isub, 1) := by decide +kernel
theorem dX9_extendsTo_35 : decode cX9_extendsTo 35 = .ok (.iaload, 1) := by decide +kernel
theorem dX9_extendsTo_36 : decode cX9_extendsTo 36 = .ok (.iconst 1, 1) := by decide +kernel
theorem dX9_extendsTo_37 : decode cX9_extendsTo 37 = .ok (.iadd, 1) := by decide +kernel
theorem dX9_extendsTo_38 : decode cX9_extendsTo 38 = .ok (.istore_n 3, 1) := by decide +kernel
theorem dX9_extendsTo_39 : decode cX9_extendsTo 39 = .ok (.aload_n 0, 1) := by decide +kernel
theorem dX9_extendsTo_40 : decode cX9_extendsTo 40 = .ok (.getfield 43, 3) := by decide +kernel
theorem dX9_extendsTo_43 : decode cX9_extendsTo 43 = .ok (.iload_n 2, 1) := by decide +kernel
theorem dX9_extendsTo_44 : decode cX9_extendsTo 44 = .ok (.if_icmp .ge 62, 3) := by decide +kernel
theorem dX9_extendsTo_47 : decode cX9_extendsTo 47 = .ok (.iload_n 3, 1) := by decide +kernel
theorem dX9_extendsTo_48 : decode cX9_extendsTo 48 = .ok (.sipush 2000, 3) := by decide +kernel
theorem dX9_extendsTo_51 : decode cX9_extendsTo 51 = .ok (.if_icmp .gt 55, 3) := by decide +kernel
theorem dX9_extendsTo_54 : decode cX9_extendsTo 54 = .ok (.aload_n 0, 1) := by decide +kernel
theorem dX9_extendsTo_55 : decode cX9_extendsTo 55 = .ok (.iload_n 3, 1) := by decide +kernel
theorem dX9_extendsTo_56 : decode cX9_extendsTo 56 = .ok (.invokevirtual 143, 3) := by decide +kernel
theorem dX9_extendsTo_59 : decode cX9_extendsTo 59 = .ok (.ifCond .eq 41, 3) := by decide +kernel
theorem dX9_extendsTo_62 : decode cX9_extendsTo 62 = .ok (.iconst 0, 1) := by decide +kernel
theorem dX9_extendsTo_63 : decode cX9_extendsTo 63 = .ok (.istore 4, 2) := by decide +kernel
theorem dX9_extendsTo_65 : decode cX9_extendsTo 65 = .ok (.iload 4, 2) := by decide +kernel
theorem dX9_extendsTo_67 : decode cX9_extendsTo 67 = .ok (.aload_n 0, 1) := by decide +kernel
theorem dX9_extendsTo_68 : decode cX9_extendsTo 68 = .ok (.getfield 43, 3) := by decide +kernel
theorem dX9_extendsTo_71 : decode cX9_extendsTo 71 = .ok (.if_icmp .ge 24, 3) := by decide +kernel
theorem dX9_extendsTo_74 : decode cX9_extendsTo 74 = .ok (.aload_n 0, 1) := by decide +kernel
theorem dX9_extendsTo_75 : decode cX9_extendsTo 75 = .ok (.getfield 19, 3) := by decide +kernel
theorem dX9_extendsTo_78 : decode cX9_extendsTo 78 = .ok (.iload_n 3, 1) := by decide +kernel
theorem dX9_extendsTo_79 : decode cX9_extendsTo 79 = .ok (.aload_n 0, 1) := by decide +kernel
theorem dX9_extendsTo_80 : decode cX9_extendsTo 80 = .ok (.getfield 16, 3) := by decide +kernel
theorem dX9_extendsTo_83 : decode cX9_extendsTo 83 = .ok (.iload 4, 2) := by decide +kernel
theorem dX9_extendsTo_85 : decode cX9_extendsTo 85 = .ok (.iaload, 1) := by decide +kernel
theorem dX9_extendsTo_86 : decode cX9_extendsTo 86 = .ok (.isub, 1) := by decide +kernel
theorem dX9_extendsTo_87 : decode cX9_extendsTo 87 = .ok (.iconst 1, 1) := by decide +kernel
theorem dX9_extendsTo_88 : decode cX9_extendsTo 88 = .ok (.iastore, 1) := by decide +kernel
theorem dX9_extendsTo_89 : decode cX9_extendsTo 89 = .ok (.iinc 4 1, 3) := by decide +kernel
theorem dX9_extendsTo_92 : decode cX9_extendsTo 92 = .ok (.goto (-27), 3) := by decide +kernel
theorem dX9_extendsTo_95 : decode cX9_extendsTo 95 = .ok (.aload_n 0, 1) := by decide +kernel
theorem dX9_extendsTo_96 : decode cX9_extendsTo 96 = .ok (.iload_n 3, 1) := by decide +kernel
theorem dX9_extendsTo_97 : decode cX9_extendsTo 97 = .ok (.invokevirtual 57, 3) := by decide +kernel
theorem dX9_extendsTo_100 : decode cX9_extendsTo 100 = .ok (.iinc 3 1, 3) := by decide +kernel
theorem dX9_extendsTo_103 : decode cX9_extendsTo 103 = .ok (.goto (-64), 3) := by decide +kernel
theorem dX9_extendsTo_106 : decode cX9_extendsTo 106 = .ok (.aload_n 0, 1) := by decide +kernel
theorem dX9_extendsTo_107 : decode cX9_extendsTo 107 = .ok (.getfield 43, 3) := by decide +kernel
theorem dX9_extendsTo_110 : decode cX9_extendsTo 110 = .ok (.iload_n 2, 1) := by decide +kernel
theorem dX9_extendsTo_111 : decode cX9_extendsTo 111 = .ok (.if_icmp .ne 7, 3) := by decide +kernel
theorem dX9_extendsTo_114 : decode cX9_extendsTo 114 = .ok (.iconst 1, 1) := by decide +kernel
theorem dX9_extendsTo_115 : decode cX9_extendsTo 115 = .ok (.goto 4, 3) := by decide +kernel
theorem dX9_extendsTo_118 : decode cX9_extendsTo 118 = .ok (.iconst 0, 1) := by decide +kernel
theorem dX9_extendsTo_119 : decode cX9_extendsTo 119 = .ok (.ireturn, 1) := by decide +kernel
set_option maxRecDepth 20000 in
theorem ggX9_extend_X9_isSet : GoodIn wsX9_extend wsX9_isSet := goodIn_r _ [4, 5, 6, 3, 7] (by decide +kernel) (by decide +kernel)
set_option maxRecDepth 20000 in
theorem gX9_extend_X9_isSet : GoodIn wsX9_extend (va_wsS RX9 61 yX9_isSet wsX9_isSet) := goodIn_app (goodIn_of _ (by decide +kernel)) ggX9_extend_X9_isSet
set_option maxRecDepth 20000 in
theorem ggX9_extend_X9_within : GoodIn wsX9_extend wsX9_within := goodIn_r _ [7] (by decide +kernel) (by decide +kernel)
set_option maxRecDepth 20000 in
theorem gX9_extend_X9_within : GoodIn wsX9_extend (va_wsS RX9 32 yX9_within wsX9_within) := goodIn_app (goodIn_of _ (by decide +kernel)) ggX9_extend_X9_within
set_option maxRecDepth 20000 in
theorem ggX9_extend_X9_areOnce : GoodIn wsX9_extend wsX9_areOnce := goodIn_r _ [11, 12, 13, 14, 15, 3, 16, 17, 18, 19, 20, 21, 22, 23, 24, 25, 26, 27, 28, 29, 67, 68, 69, 70, 71, 72, 73, 74, 75, 76] (by decide +kernel) (by decide +kernel)
set_option maxRecDepth 20000 in
theorem gX9_extend_X9_areOnce : GoodIn wsX9_extend (wsV RX9 89 RX9 yX9_areOnce wsX9_areOnce) := goodIn_app (goodIn_of _ (by decide +kernel)) ggX9_extend_X9_areOnce
set_option maxRecDepth 20000 in
theorem ggX9_extend_X9_many : GoodIn wsX9_extend wsX9_many := goodIn_r _ [24, 25, 67, 68, 69, 70, 71, 72, 73, 74, 75, 76] (by decide +kernel) (by decide +kernel)
set_option maxRecDepth 20000 in
theorem gX9_extend_X9_many : GoodIn wsX9_extend (wsV RX9 46 RX9 yX9_many wsX9_many) := goodIn_app (goodIn_of _ (by decide +kernel)) ggX9_extend_X9_many
set_option maxRecDepth 20000 in
theorem ggX9_extend_X9_extendsTo : GoodIn wsX9_extend wsX9_extendsTo := goodIn_r _ [33, 34, 35, 12, 13, 14, 15, 3, 16, 17, 18, 19, 20, 21, 22, 23, 24, 25, 26, 27, 28, 29, 36, 37, 38, 39, 40, 41, 42, 43, 44, 45, 46, 47, 48, 49, 50, 51, 67, 68, 69, 70, 71, 72, 73, 74, 75, 76] (by decide +kernel) (by decide +kernel)
set_option maxRecDepth 20000 in
theorem gX9_extend_X9_extendsTo : GoodIn wsX9_extend (wsV RX9 146 RX9 yX9_extendsTo wsX9_extendsTo) := goodIn_app (goodIn_of _ (by decide +kernel)) ggX9_extend_X9_extendsTo
set_option maxRecDepth 20000 in
theorem ggX9_extend_X9_refused : GoodIn wsX9_extend wsX9_refused := goodIn_r _ [55, 56, 67, 68, 69, 70, 71, 72, 73, 74, 75, 76] (by decide +kernel) (by decide +kernel)
set_option maxRecDepth 20000 in
theorem gX9_extend_X9_refused : GoodIn wsX9_extend (wsV RX9 39 RX9 yX9_refused wsX9_refused) := goodIn_app (goodIn_of _ (by decide +kernel)) ggX9_extend_X9_refused
set_option maxRecDepth 20000 in
theorem ggX9_extend_X9_saves : GoodIn wsX9_extend wsX9_saves := goodIn_r _ [60, 61, 62, 25, 67, 68, 69, 70, 71, 72, 73, 74, 75, 76] (by decide +kernel) (by decide +kernel)
set_option maxRecDepth 20000 in
theorem gX9_extend_X9_saves : GoodIn wsX9_extend (wsV RX9 67 RX9 yX9_saves wsX9_saves) := goodIn_app (goodIn_of _ (by decide +kernel)) ggX9_extend_X9_saves
set_option maxRecDepth 20000 in
theorem ggX9_extend_X9_becomes : GoodIn wsX9_extend wsX9_becomes := goodIn_r _ [66, 25, 34, 35, 67, 68, 69, 70, 71, 72, 73, 74, 75, 76] (by decide +kernel) (by decide +kernel)
set_option maxRecDepth 20000 in
theorem gX9_extend_X9_becomes : GoodIn wsX9_extend (wsV RX9 74 RX9 yX9_becomes wsX9_becomes) := goodIn_app (goodIn_of _ (by decide +kernel)) ggX9_extend_X9_becomes
set_option maxRecDepth 20000 in
theorem ggX9_extend_X9_markAt : GoodIn wsX9_extend wsX9_markAt := goodIn_r _ [29, 25, 67, 68, 69, 70, 71, 72, 73, 74, 75, 76] (by decide +kernel) (by decide +kernel)
set_option maxRecDepth 20000 in
theorem gX9_extend_X9_markAt : GoodIn wsX9_extend (wsV RX9 50 RX9 yX9_markAt wsX9_markAt) := goodIn_app (goodIn_of _ (by decide +kernel)) ggX9_extend_X9_markAt
theorem dX9_extend_0 : decode cX9_extend 0 = .ok (.aload_n 0, 1) := by decide +kernel
theorem dX9_extend_1 : decode cX9_extend 1 = .ok (.iload_n 1, 1) := by decide +kernel
theorem dX9_extend_2 : decode cX9_extend 2 = .ok (.invokestatic 61, 3) := by decide +kernel
theorem dX9_extend_5 : decode cX9_extend 5 = .ok (.ifCond .ne 7, 3) := by decide +kernel
theorem dX9_extend_8 : decode cX9_extend 8 = .ok (.iconst 1, 1) := by decide +kernel
theorem dX9_extend_9 : decode cX9_extend 9 = .ok (.goto 50, 3) := by decide +kernel
theorem dX9_extend_12 : decode cX9_extend 12 = .ok (.iload_n 2, 1) := by decide +kernel
theorem dX9_extend_13 : decode cX9_extend 13 = .ok (.iconst 1, 1) := by decide +kernel
theorem dX9_extend_14 : decode cX9_extend 14 = .ok (.bipush 24, 2) := by decide +kernel
theorem dX9_extend_16 : decode cX9_extend 16 = .ok (.invokestatic 32, 3) := by decide +kernel
theorem dX9_extend_19 : decode cX9_extend 19 = .ok (.ifCond .ne 7, 3) := by decide +kernel
theorem dX9_extend_22 : decode cX9_extend 22 = .ok (.iconst 2, 1) := by decide +kernel
theorem dX9_extend_23 : decode cX9_extend 23 = .ok (.goto 36, 3) := by decide +kernel
theorem dX9_extend_26 : decode cX9_extend 26 = .ok (.aload_n 0, 1) := by decide +kernel
theorem dX9_extend_27 : decode cX9_extend 27 = .ok (.iconst 1, 1) := by decide +kernel
theorem dX9_extend_28 : decode cX9_extend 28 = .ok (.iload_n 1, 1) := by decide +kernel
theorem dX9_extend_29 : decode cX9_extend 29 = .ok (.ishl, 1) := by decide +kernel
theorem dX9_extend_30 : decode cX9_extend 30 = .ok (.invokevirtual 89, 3) := by decide +kernel
theorem dX9_extend_33 : decode cX9_extend 33 = .ok (.ifCond .eq 21, 3) := by decide +kernel
theorem dX9_extend_36 : decode cX9_extend 36 = .ok (.aload_n 0, 1) := by decide +kernel
theorem dX9_extend_37 : decode cX9_extend 37 = .ok (.iload_n 1, 1) := by decide +kernel
theorem dX9_extend_38 : decode cX9_extend 38 = .ok (.invokevirtual 46, 3) := by decide +kernel
theorem dX9_extend_41 : decode cX9_extend 41 = .ok (.iload_n 2, 1) := by decide +kernel
theorem dX9_extend_42 : decode cX9_extend 42 = .ok (.if_icmp .gt 12, 3) := by decide +kernel
theorem dX9_extend_45 : decode cX9_extend 45 = .ok (.aload_n 0, 1) := by decide +kernel
theorem dX9_extend_46 : decode cX9_extend 46 = .ok (.iload_n 1, 1) := by decide +kernel
theorem dX9_extend_47 : decode cX9_extend 47 = .ok (.iload_n 2, 1) := by decide +kernel
theorem dX9_extend_48 : decode cX9_extend 48 = .ok (.invokevirtual 146, 3) := by decide +kernel
theorem dX9_extend_51 : decode cX9_extend 51 = .ok (.ifCond .ne 7, 3) := by decide +kernel
theorem dX9_extend_54 : decode cX9_extend 54 = .ok (.iconst 3, 1) := by decide +kernel
theorem dX9_extend_55 : decode cX9_extend 55 = .ok (.goto 4, 3) := by decide +kernel
theorem dX9_extend_58 : decode cX9_extend 58 = .ok (.iconst 0, 1) := by decide +kernel
theorem dX9_extend_59 : decode cX9_extend 59 = .ok (.invokevirtual 39, 3) := by decide +kernel
theorem dX9_extend_62 : decode cX9_extend 62 = .ok (.ifCond .eq 5, 3) := by decide +kernel
theorem dX9_extend_65 : decode cX9_extend 65 = .ok (.iconst 0, 1) := by decide +kernel
theorem dX9_extend_66 : decode cX9_extend 66 = .ok (.ireturn, 1) := by decide +kernel
theorem dX9_extend_67 : decode cX9_extend 67 = .ok (.aload_n 0, 1) := by decide +kernel
theorem dX9_extend_68 : decode cX9_extend 68 = .ok (.invokevirtual 67, 3) := by decide +kernel
theorem dX9_extend_71 : decode cX9_extend 71 = .ok (.aload_n 0, 1) := by decide +kernel
theorem dX9_extend_72 : decode cX9_extend 72 = .ok (.iload_n 1, 1) := by decide +kernel
theorem dX9_extend_73 : decode cX9_extend 73 = .ok (.invokevirtual 74, 3) := by decide +kernel
theorem dX9_extend_76 : decode cX9_extend 76 = .ok (.pop, 1) := by decide +kernel
theorem dX9_extend_77 : decode cX9_extend 77 = .ok (.aload_n 0, 1) := by decide +kernel
theorem dX9_extend_78 : decode cX9_extend 78 = .ok (.iload_n 1, 1) := by decide +kernel
theorem dX9_extend_79 : decode cX9_extend 79 = .ok (.iload_n 2, 1) := by decide +kernel
theorem dX9_extend_80 : decode cX9_extend 80 = .ok (.iconst 1, 1) := by decide +kernel
theorem dX9_extend_81 : decode cX9_extend 81 = .ok (.isub, 1) := by decide +kernel
theorem dX9_extend_82 : decode cX9_extend 82 = .ok (.invokevirtual 50, 3) := by decide +kernel
theorem dX9_extend_85 : decode cX9_extend 85 = .ok (.ireturn, 1) := by decide +kernel
theorem dX9_picksFirst_0 : decode cX9_picksFirst 0 = .ok (.iconst 0, 1) := by decide +kernel
theorem dX9_picksFirst_1 : decode cX9_picksFirst 1 = .ok (.istore_n 3, 1) := by decide +kernel
theorem dX9_picksFirst_2 : decode cX9_picksFirst 2 = .ok (.iload_n 3, 1) := by decide +kernel
theorem dX9_picksFirst_3 : decode cX9_picksFirst 3 = .ok (.iload_n 1, 1) := by decide +kernel
theorem dX9_picksFirst_4 : decode cX9_picksFirst 4 = .ok (.if_icmp .ge 18, 3) := by decide +kernel
theorem dX9_picksFirst_7 : decode cX9_picksFirst 7 = .ok (.aload_n 0, 1) := by decide +kernel
theorem dX9_picksFirst_8 : decode cX9_picksFirst 8 = .ok (.getfield 25, 3) := by decide +kernel
theorem dX9_picksFirst_11 : decode cX9_picksFirst 11 = .ok (.iload_n 3, 1) := by decide +kernel
theorem dX9_picksFirst_12 : decode cX9_picksFirst 12 = .ok (.iload_n 2, 1) := by decide +kernel
theorem dX9_picksFirst_13 : decode cX9_picksFirst 13 = .ok (.iload_n 3, 1) := by decide +kernel
theorem dX9_picksFirst_14 : decode cX9_picksFirst 14 = .ok (.iadd, 1) := by decide +kernel
theorem dX9_picksFirst_15 : decode cX9_picksFirst 15 = .ok (.iastore, 1) := by decide +kernel
theorem dX9_picksFirst_16 : decode cX9_picksFirst 16 = .ok (.iinc 3 1, 3) := by decide +kernel
theorem dX9_picksFirst_19 : decode cX9_picksFirst 19 = .ok (.goto (-17), 3) := by decide +kernel
theorem dX9_picksFirst_22 : decode cX9_picksFirst 22 = .ok (.return_, 1) := by decide +kernel
theorem dX9_picksNext_0 : decode cX9_picksNext 0 = .ok (.iload_n 1, 1) := by decide +kernel
theorem dX9_picksNext_1 : decode cX9_picksNext 1 = .ok (.iconst 1, 1) := by decide +kernel
theorem dX9_picksNext_2 : decode cX9_picksNext 2 = .ok (.isub, 1) := by decide +kernel
theorem dX9_picksNext_3 : decode cX9_picksNext 3 = .ok (.istore_n 3, 1) := by decide +kernel
theorem dX9_picksNext_4 : decode cX9_picksNext 4 = .ok (.iload_n 3, 1) := by decide +kernel
theorem dX9_picksNext_5 : decode cX9_picksNext 5 = .ok (.ifCond .lt 25, 3) := by decide +kernel
theorem dX9_picksNext_8 : decode cX9_picksNext 8 = .ok (.aload_n 0, 1) := by decide +kernel
theorem dX9_picksNext_9 : decode cX9_picksNext 9 = .ok (.getfield 25, 3) := by decide +kernel
theorem dX9_picksNext_12 : decode cX9_picksNext 12 = .ok (.iload_n 3, 1) := by decide +kernel
theorem dX9_picksNext_13 : decode cX9_picksNext 13 = .ok (.iaload, 1) := by decide +kernel
theorem dX9_picksNext_14 : decode cX9_picksNext 14 = .ok (.iload_n 2, 1) := by decide +kernel
theorem dX9_picksNext_15 : decode cX9_picksNext 15 = .ok (.iload_n 1, 1) := by decide +kernel
theorem dX9_picksNext_16 : decode cX9_picksNext 16 = .ok (.iconst 1, 1) := by decide +kernel
theorem dX9_picksNext_17 : decode cX9_picksNext 17 = .ok (.isub, 1) := by decide +kernel
theorem dX9_picksNext_18 : decode cX9_picksNext 18 = .ok (.iload_n 3, 1) := by decide +kernel
theorem dX9_picksNext_19 : decode cX9_picksNext 19 = .ok (.isub, 1) := by decide +kernel
theorem dX9_picksNext_20 : decode cX9_picksNext 20 = .ok (.isub, 1) := by decide +kernel
theorem dX9_picksNext_21 : decode cX9_picksNext 21 = .ok (.if_icmp .ne 9, 3) := by decide +kernel
theorem dX9_picksNext_24 : decode cX9_picksNext 24 = .ok (.iinc 3 (-1), 3) := by decide +kernel
theorem dX9_picksNext_27 : decode cX9_picksNext 27 = .ok (.goto (-23), 3) := by decide +kernel
theorem dX9_picksNext_30 : decode cX9_picksNext 30 = .ok (.iload_n 3, 1) := by decide +kernel
theorem dX9_picksNext_31 : decode cX9_picksNext 31 = .ok (.ifCond .ge 5, 3) := by decide +kernel
theorem dX9_picksNext_34 : decode cX9_picksNext 34 = .ok (.iconst 0, 1) := by decide +kernel
theorem dX9_picksNext_35 : decode cX9_picksNext 35 = .ok (.ireturn, 1) := by decide +kernel
theorem dX9_picksNext_36 : decode cX9_picksNext 36 = .ok (.aload_n 0, 1) := by decide +kernel
theorem dX9_picksNext_37 : decode cX9_picksNext 37 = .ok (.getfield 25, 3) := by decide +kernel
theorem dX9_picksNext_40 : decode cX9_picksNext 40 = .ok (.iload_n 3, 1) := by decide +kernel
theorem dX9_picksNext_41 : decode cX9_picksNext 41 = .ok (.dup2, 1) := by decide +kernel
theorem dX9_picksNext_42 : decode cX9_picksNext 42 = .ok (.iaload, 1) := by decide +kernel
theorem dX9_picksNext_43 : decode cX9_picksNext 43 = .ok (.iconst 1, 1) := by decide +kernel
theorem dX9_picksNext_44 : decode cX9_picksNext 44 = .ok (.iadd, 1) := by decide +kernel
theorem dX9_picksNext_45 : decode cX9_picksNext 45 = .ok (.iastore, 1) := by decide +kernel
theorem dX9_picksNext_46 : decode cX9_picksNext 46 = .ok (.iload_n 3, 1) := by decide +kernel
theorem dX9_picksNext_47 : decode cX9_picksNext 47 = .ok (.iconst 1, 1) := by decide +kernel
theorem dX9_picksNext_48 : decode cX9_picksNext 48 = .ok (.iadd, 1) := by decide +kernel
theorem dX9_picksNext_49 : decode cX9_picksNext 49 = .ok (.istore 4, 2) := by decide +kernel
theorem dX9_picksNext_51 : decode cX9_picksNext 51 = .ok (.iload 4, 2) := by decide +kernel
theorem dX9_picksNext_53 : decode cX9_picksNext 53 = .ok (.iload_n 1, 1) := by decide +kernel
theorem dX9_picksNext_54 : decode cX9_picksNext 54 = .ok (.if_icmp .ge 27, 3) := by decide +kernel
theorem dX9_picksNext_57 : decode cX9_picksNext 57 = .ok (.aload_n 0, 1) := by decide +kernel
theorem dX9_picksNext_58 : decode cX9_picksNext 58 = .ok (.getfield 25, 3) := by decide +kernel
theorem dX9_picksNext_61 : decode cX9_picksNext 61 = .ok (.iload 4, 2) := by decide +kernel
theorem dX9_picksNext_63 : decode cX9_picksNext 63 = .ok (.aload_n 0, 1) := by decide +kernel
theorem dX9_picksNext_64 : decode cX9_picksNext 64 = .ok (.getfield 25, 3) := by decide +kernel
theorem dX9_picksNext_67 : decode cX9_picksNext 67 = .ok (.iload 4, 2) := by decide +kernel
theorem dX9_picksNext_69 : decode cX9_picksNext 69 = .ok (.iconst 1, 1) := by decide +kernel
theorem dX9_picksNext_70 : decode cX9_picksNext 70 = .ok (.isub, 1) := by decide +kernel
theorem dX9_picksNext_71 : decode cX9_picksNext 71 = .ok (.iaload, 1) := by decide +kernel
theorem dX9_picksNext_72 : decode cX9_picksNext 72 = .ok (.iconst 1, 1) := by decide +kernel
theorem dX9_picksNext_73 : decode cX9_picksNext 73 = .ok (.iadd, 1) := by decide +kernel
theorem dX9_picksNext_74 : decode cX9_picksNext 74 = .ok (.iastore, 1) := by decide +kernel
theorem dX9_picksNext_75 : decode cX9_picksNext 75 = .ok (.iinc 4 1, 3) := by decide +kernel
theorem dX9_picksNext_78 : decode cX9_picksNext 78 = .ok (.goto (-27), 3) := by decide +kernel
theorem dX9_picksNext_81 : decode cX9_picksNext 81 = .ok (.iconst 1, 1) := by decide +kernel
theorem dX9_picksNext_82 : decode cX9_picksNext 82 = .ok (.ireturn, 1) := by decide +kernel
set_option maxRecDepth 20000 in
theorem ggX9_makes_X9_begins : GoodIn wsX9_makes wsX9_begins := goodIn_r _ [6, 7, 13, 14, 15, 16, 17, 18, 19, 20, 21, 22] (by decide +kernel) (by decide +kernel)
set_option maxRecDepth 20000 in
theorem gX9_makes_X9_begins : GoodIn wsX9_makes (wsV RX9 54 RX9 yX9_begins wsX9_begins) := goodIn_app (goodIn_of _ (by decide +kernel)) ggX9_makes_X9_begins
set_option maxRecDepth 20000 in
theorem ggX9_makes_X9_comes : GoodIn wsX9_makes wsX9_comes := goodIn_r _ [11, 7, 12, 13, 14, 15, 16, 17, 18, 19, 20, 21, 22] (by decide +kernel) (by decide +kernel)
set_option maxRecDepth 20000 in
theorem gX9_makes_X9_comes : GoodIn wsX9_makes (wsV RX9 57 RX9 yX9_comes wsX9_comes) := goodIn_app (goodIn_of _ (by decide +kernel)) ggX9_makes_X9_comes
theorem dX9_makes_0 : decode cX9_makes 0 = .ok (.aload_n 0, 1) := by decide +kernel
theorem dX9_makes_1 : decode cX9_makes 1 = .ok (.invokevirtual 54, 3) := by decide +kernel
theorem dX9_makes_4 : decode cX9_makes 4 = .ok (.aload_n 0, 1) := by decide +kernel
theorem dX9_makes_5 : decode cX9_makes 5 = .ok (.iconst 0, 1) := by decide +kernel
theorem dX9_makes_6 : decode cX9_makes 6 = .ok (.invokevirtual 57, 3) := by decide +kernel
theorem dX9_makes_9 : decode cX9_makes 9 = .ok (.iconst 0, 1) := by decide +kernel
theorem dX9_makes_10 : decode cX9_makes 10 = .ok (.istore_n 2, 1) := by decide +kernel
theorem dX9_makes_11 : decode cX9_makes 11 = .ok (.iload_n 2, 1) := by decide +kernel
theorem dX9_makes_12 : decode cX9_makes 12 = .ok (.iload_n 1, 1) := by decide +kernel
theorem dX9_makes_13 : decode cX9_makes 13 = .ok (.if_icmp .ge 19, 3) := by decide +kernel
theorem dX9_makes_16 : decode cX9_makes 16 = .ok (.aload_n 0, 1) := by decide +kernel
theorem dX9_makes_17 : decode cX9_makes 17 = .ok (.aload_n 0, 1) := by decide +kernel
theorem dX9_makes_18 : decode cX9_makes 18 = .ok (.getfield 25, 3) := by decide +kernel
theorem dX9_makes_21 : decode cX9_makes 21 = .ok (.iload_n 2, 1) := by decide +kernel
theorem dX9_makes_22 : decode cX9_makes 22 = .ok (.iaload, 1) := by decide +kernel
theorem dX9_makes_23 : decode cX9_makes 23 = .ok (.invokevirtual 57, 3) := by decide +kernel
theorem dX9_makes_26 : decode cX9_makes 26 = .ok (.iinc 2 1, 3) := by decide +kernel
theorem dX9_makes_29 : decode cX9_makes 29 = .ok (.goto (-18), 3) := by decide +kernel
theorem dX9_makes_32 : decode cX9_makes 32 = .ok (.return_, 1) := by decide +kernel
theorem dX9_clash_0 : decode cX9_clash 0 = .ok (.lconst 0, 1) := by decide +kernel
theorem dX9_clash_1 : decode cX9_clash 1 = .ok (.lstore_n 2, 1) := by decide +kernel
theorem dX9_clash_2 : decode cX9_clash 2 = .ok (.iconst 0, 1) := by decide +kernel
theorem dX9_clash_3 : decode cX9_clash 3 = .ok (.istore 4, 2) := by decide +kernel
theorem dX9_clash_5 : decode cX9_clash 5 = .ok (.iload 4, 2) := by decide +kernel
theorem dX9_clash_7 : decode cX9_clash 7 = .ok (.iload_n 1, 1) := by decide +kernel
theorem dX9_clash_8 : decode cX9_clash 8 = .ok (.if_icmp .ge 70, 3) := by decide +kernel
theorem dX9_clash_11 : decode cX9_clash 11 = .ok (.iconst (-1), 1) := by decide +kernel
theorem dX9_clash_12 : decode cX9_clash 12 = .ok (.istore 5, 2) := by decide +kernel
theorem dX9_clash_14 : decode cX9_clash 14 = .ok (.iload 5, 2) := by decide +kernel
theorem dX9_clash_16 : decode cX9_clash 16 = .ok (.iload 4, 2) := by decide +kernel
theorem dX9_clash_18 : decode cX9_clash 18 = .ok (.if_icmp .ge 54, 3) := by decide +kernel
theorem dX9_clash_21 : decode cX9_clash 21 = .ok (.lconst 1, 1) := by decide +kernel
theorem dX9_clash_22 : decode cX9_clash 22 = .ok (.aload_n 0, 1) := by decide +kernel
theorem dX9_clash_23 : decode cX9_clash 23 = .ok (.getfield 25, 3) := by decide +kernel
theorem dX9_clash_26 : decode cX9_clash 26 = .ok (.iload 4, 2) := by decide +kernel
theorem dX9_clash_28 : decode cX9_clash 28 = .ok (.iaload, 1) := by decide +kernel
theorem dX9_clash_29 : decode cX9_clash 29 = .ok (.iload 5, 2) := by decide +kernel
theorem dX9_clash_31 : decode cX9_clash 31 = .ok (.ifCond .ge 7, 3) := by decide +kernel
theorem dX9_clash_34 : decode cX9_clash 34 = .ok (.iconst 0, 1) := by decide +kernel
theorem dX9_clash_35 : decode cX9_clash 35 = .ok (.goto 10, 3) := by decide +kernel
theorem dX9_clash_38 : decode cX9_clash 38 = .ok (.aload_n 0, 1) := by decide +kernel
theorem dX9_clash_39 : decode cX9_clash 39 = .ok (.getfield 25, 3) := by decide +kernel
theorem dX9_clash_42 : decode cX9_clash 42 = .ok (.iload 5, 2) := by decide +kernel
theorem dX9_clash_44 : decode cX9_clash 44 = .ok (.iaload, 1) := by decide +kernel
theorem dX9_clash_45 : decode cX9_clash 45 = .ok (.isub, 1) := by decide +kernel
theorem dX9_clash_46 : decode cX9_clash 46 = .ok (.lshl, 1) := by decide +kernel
theorem dX9_clash_47 : decode cX9_clash 47 = .ok (.lstore 6, 2) := by decide +kernel
theorem dX9_clash_49 : decode cX9_clash 49 = .ok (.lload_n 2, 1) := by decide +kernel
theorem dX9_clash_50 : decode cX9_clash 50 = .ok (.lload 6, 2) := by decide +kernel
theorem dX9_clash_52 : decode cX9_clash 52 = .ok (.land, 1) := by decide +kernel
theorem dX9_clash_53 : decode cX9_clash 53 = .ok (.lconst 0, 1) := by decide +kernel
theorem dX9_clash_54 : decode cX9_clash 54 = .ok (.lcmp, 1) := by decide +kernel
theorem dX9_clash_55 : decode cX9_clash 55 = .ok (.ifCond .eq 6, 3) := by decide +kernel
theorem dX9_clash_58 : decode cX9_clash 58 = .ok (.iload 4, 2) := by decide +kernel
theorem dX9_clash_60 : decode cX9_clash 60 = .ok (.ireturn, 1) := by decide +kernel
theorem dX9_clash_61 : decode cX9_clash 61 = .ok (.lload_n 2, 1) := by decide +kernel
theorem dX9_clash_62 : decode cX9_clash 62 = .ok (.lload 6, 2) := by decide +kernel
theorem dX9_clash_64 : decode cX9_clash 64 = .ok (.lor, 1) := by decide +kernel
theorem dX9_clash_65 : decode cX9_clash 65 = .ok (.lstore_n 2, 1) := by decide +kernel
theorem dX9_clash_66 : decode cX9_clash 66 = .ok (.iinc 5 1, 3) := by decide +kernel
theorem dX9_clash_69 : decode cX9_clash 69 = .ok (.goto (-55), 3) := by decide +kernel
theorem dX9_clash_72 : decode cX9_clash 72 = .ok (.iinc 4 1, 3) := by decide +kernel
theorem dX9_clash_75 : decode cX9_clash 75 = .ok (.goto (-70), 3) := by decide +kernel
theorem dX9_clash_78 : decode cX9_clash 78 = .ok (.iconst (-1), 1) := by decide +kernel
theorem dX9_clash_79 : decode cX9_clash 79 = .ok (.ireturn, 1) := by decide +kernel
set_option maxRecDepth 20000 in
theorem ggX9_optimal_X9_isSet : GoodIn wsX9_optimal wsX9_isSet := goodIn_r _ [5, 6, 7, 4, 8] (by decide +kernel) (by decide +kernel)
set_option maxRecDepth 20000 in
theorem gX9_optimal_X9_isSet : GoodIn wsX9_optimal (va_wsS RX9 61 yX9_isSet wsX9_isSet) := goodIn_app (goodIn_of _ (by decide +kernel)) ggX9_optimal_X9_isSet
set_option maxRecDepth 20000 in
theorem ggX9_optimal_X9_within : GoodIn wsX9_optimal wsX9_within := goodIn_r _ [8] (by decide +kernel) (by decide +kernel)
set_option maxRecDepth 20000 in
theorem gX9_optimal_X9_within : GoodIn wsX9_optimal (va_wsS RX9 32 yX9_within wsX9_within) := goodIn_app (goodIn_of _ (by decide +kernel)) ggX9_optimal_X9_within
set_option maxRecDepth 20000 in
theorem ggX9_optimal_X9_refused : GoodIn wsX9_optimal wsX9_refused := goodIn_r _ [12, 13, 67, 68, 69, 70, 71, 72, 73, 74, 75, 76] (by decide +kernel) (by decide +kernel)
set_option maxRecDepth 20000 in
theorem gX9_optimal_X9_refused : GoodIn wsX9_optimal (wsV RX9 39 RX9 yX9_refused wsX9_refused) := goodIn_app (goodIn_of _ (by decide +kernel)) ggX9_optimal_X9_refused
set_option maxRecDepth 20000 in
theorem ggX9_optimal_X9_saves : GoodIn wsX9_optimal wsX9_saves := goodIn_r _ [17, 18, 19, 20, 67, 68, 69, 70, 71, 72, 73, 74, 75, 76] (by decide +kernel) (by decide +kernel)
set_option maxRecDepth 20000 in
theorem gX9_optimal_X9_saves : GoodIn wsX9_optimal (wsV RX9 67 RX9 yX9_saves wsX9_saves) := goodIn_app (goodIn_of _ (by decide +kernel)) ggX9_optimal_X9_saves
set_option maxRecDepth 20000 in
theorem ggX9_optimal_X9_picksFirst : GoodIn wsX9_optimal wsX9_picksFirst := goodIn_r _ [24, 1, 67, 68, 69, 70, 71, 72, 73, 74, 75, 76] (by decide +kernel) (by decide +kernel)
set_option maxRecDepth 20000 in
theorem gX9_optimal_X9_picksFirst : GoodIn wsX9_optimal (wsV RX9 149 RX9 yX9_picksFirst wsX9_picksFirst) := goodIn_app (goodIn_of _ (by decide +kernel)) ggX9_optimal_X9_picksFirst
set_option maxRecDepth 20000 in
theorem ggX9_optimal_X9_clash : GoodIn wsX9_optimal wsX9_clash := goodIn_r _ [28, 1, 67, 68, 69, 70, 71, 72, 73, 74, 75, 76] (by decide +kernel) (by decide +kernel)
set_option maxRecDepth 20000 in
theorem gX9_optimal_X9_clash : GoodIn wsX9_optimal (wsV RX9 152 RX9 yX9_clash wsX9_clash) := goodIn_app (goodIn_of _ (by decide +kernel)) ggX9_optimal_X9_clash
set_option maxRecDepth 20000 in
theorem ggX9_optimal_X9_skips : GoodIn wsX9_optimal wsX9_skips := goodIn_r _ [32, 1, 25, 26, 27, 4, 28, 33, 34, 35, 36, 67, 68, 69, 70, 71, 72, 73, 74, 75, 76] (by decide +kernel) (by decide +kernel)
set_option maxRecDepth 20000 in
theorem gX9_optimal_X9_skips : GoodIn wsX9_optimal (wsV RX9 155 RX9 yX9_skips wsX9_skips) := goodIn_app (goodIn_of _ (by decide +kernel)) ggX9_optimal_X9_skips
set_option maxRecDepth 20000 in
theorem ggX9_optimal_X9_makes : GoodIn wsX9_optimal wsX9_makes := goodIn_r _ [40, 1, 41, 42, 43, 4, 44, 45, 46, 47, 48, 49, 50, 67, 68, 69, 70, 71, 72, 73, 74, 75, 76] (by decide +kernel) (by decide +kernel)
set_option maxRecDepth 20000 in
theorem gX9_optimal_X9_makes : GoodIn wsX9_optimal (wsV RX9 158 RX9 yX9_makes wsX9_makes) := goodIn_app (goodIn_of _ (by decide +kernel)) ggX9_optimal_X9_makes
set_option maxRecDepth 20000 in
theorem ggX9_optimal_X9_becomes : GoodIn wsX9_optimal wsX9_becomes := goodIn_r _ [54, 20, 45, 50, 67, 68, 69, 70, 71, 72, 73, 74, 75, 76] (by decide +kernel) (by decide +kernel)
set_option maxRecDepth 20000 in
theorem gX9_optimal_X9_becomes : GoodIn wsX9_optimal (wsV RX9 74 RX9 yX9_becomes wsX9_becomes) := goodIn_app (goodIn_of _ (by decide +kernel)) ggX9_optimal_X9_becomes
set_option maxRecDepth 20000 in
theorem ggX9_optimal_X9_lengthOf : GoodIn wsX9_optimal wsX9_lengthOf := goodIn_r _ [58, 59, 60, 61, 4, 62, 20, 63, 64, 65, 66, 67, 68, 69, 70, 71, 72, 73, 74, 75, 76] (by decide +kernel) (by decide +kernel)
set_option maxRecDepth 20000 in
theorem gX9_optimal_X9_lengthOf : GoodIn wsX9_optimal (wsV RX9 77 RX9 yX9_lengthOf wsX9_lengthOf) := goodIn_app (goodIn_of _ (by decide +kernel)) ggX9_optimal_X9_lengthOf
theorem dX9_optimal_0 : decode cX9_optimal 0 = .ok (.aload_n 0, 1) := by decide +kernel
theorem dX9_optimal_1 : decode cX9_optimal 1 = .ok (.iload_n 2, 1) := by decide +kernel
theorem dX9_optimal_2 : decode cX9_optimal 2 = .ok (.invokestatic 61, 3) := by decide +kernel
theorem dX9_optimal_5 : decode cX9_optimal 5 = .ok (.ifCond .ne 7, 3) := by decide +kernel
theorem dX9_optimal_8 : decode cX9_optimal 8 = .ok (.iconst 1, 1) := by decide +kernel
theorem dX9_optimal_9 : decode cX9_optimal 9 = .ok (.goto 18, 3) := by decide +kernel
theorem dX9_optimal_12 : decode cX9_optimal 12 = .ok (.iload_n 1, 1) := by decide +kernel
theorem dX9_optimal_13 : decode cX9_optimal 13 = .ok (.iconst 1, 1) := by decide +kernel
theorem dX9_optimal_14 : decode cX9_optimal 14 = .ok (.bipush 7, 2) := by decide +kernel
theorem dX9_optimal_16 : decode cX9_optimal 16 = .ok (.invokestatic 32, 3) := by decide +kernel
theorem dX9_optimal_19 : decode cX9_optimal 19 = .ok (.ifCond .eq 7, 3) := by decide +kernel
theorem dX9_optimal_22 : decode cX9_optimal 22 = .ok (.iconst 0, 1) := by decide +kernel
theorem dX9_optimal_23 : decode cX9_optimal 23 = .ok (.goto 4, 3) := by decide +kernel
theorem dX9_optimal_26 : decode cX9_optimal 26 = .ok (.iconst 2, 1) := by decide +kernel
theorem dX9_optimal_27 : decode cX9_optimal 27 = .ok (.invokevirtual 39, 3) := by decide +kernel
theorem dX9_optimal_30 : decode cX9_optimal 30 = .ok (.ifCond .eq 5, 3) := by decide +kernel
theorem dX9_optimal_33 : decode cX9_optimal 33 = .ok (.iconst 0, 1) := by decide +kernel
theorem dX9_optimal_34 : decode cX9_optimal 34 = .ok (.ireturn, 1) := by decide +kernel
theorem dX9_optimal_35 : decode cX9_optimal 35 = .ok (.aload_n 0, 1) := by decide +kernel
theorem dX9_optimal_36 : decode cX9_optimal 36 = .ok (.invokevirtual 67, 3) := by decide +kernel
theorem dX9_optimal_39 : decode cX9_optimal 39 = .ok (.iload_n 1, 1) := by decide +kernel
theorem dX9_optimal_40 : decode cX9_optimal 40 = .ok (.iload_n 1, 1) := by decide +kernel
theorem dX9_optimal_41 : decode cX9_optimal 41 = .ok (.iconst 1, 1) := by decide +kernel
theorem dX9_optimal_42 : decode cX9_optimal 42 = .ok (.isub, 1) := by decide +kernel
theorem dX9_optimal_43 : decode cX9_optimal 43 = .ok (.imul, 1) := by decide +kernel
theorem dX9_optimal_44 : decode cX9_optimal 44 = .ok (.iconst 2, 1) := by decide +kernel
theorem dX9_optimal_45 : decode cX9_optimal 45 = .ok (.idiv, 1) := by decide +kernel
theorem dX9_optimal_46 : decode cX9_optimal 46 = .ok (.istore_n 3, 1) := by decide +kernel
theorem dX9_optimal_47 : decode cX9_optimal 47 = .ok (.iload_n 1, 1) := by decide +kernel
theorem dX9_optimal_48 : decode cX9_optimal 48 = .ok (.iconst 1, 1) := by decide +kernel
theorem dX9_optimal_49 : decode cX9_optimal 49 = .ok (.if_icmp .ne 7, 3) := by decide +kernel
theorem dX9_optimal_52 : decode cX9_optimal 52 = .ok (.iconst 1, 1) := by decide +kernel
theorem dX9_optimal_53 : decode cX9_optimal 53 = .ok (.goto 4, 3) := by decide +kernel
theorem dX9_optimal_56 : decode cX9_optimal 56 = .ok (.iconst 0, 1) := by decide +kernel
theorem dX9_optimal_57 : decode cX9_optimal 57 = .ok (.istore 4, 2) := by decide +kernel
theorem dX9_optimal_59 : decode cX9_optimal 59 = .ok (.aload_n 0, 1) := by decide +kernel
theorem dX9_optimal_60 : decode cX9_optimal 60 = .ok (.iload_n 1, 1) := by decide +kernel
theorem dX9_optimal_61 : decode cX9_optimal 61 = .ok (.iconst 1, 1) := by decide +kernel
theorem dX9_optimal_62 : decode cX9_optimal 62 = .ok (.isub, 1) := by decide +kernel
theorem dX9_optimal_63 : decode cX9_optimal 63 = .ok (.iconst 1, 1) := by decide +kernel
theorem dX9_optimal_64 : decode cX9_optimal 64 = .ok (.invokevirtual 149, 3) := by decide +kernel
theorem dX9_optimal_67 : decode cX9_optimal 67 = .ok (.iload 4, 2) := by decide +kernel
theorem dX9_optimal_69 : decode cX9_optimal 69 = .ok (.ifCond .ne 63, 3) := by decide +kernel
theorem dX9_optimal_72 : decode cX9_optimal 72 = .ok (.aload_n 0, 1) := by decide +kernel
theorem dX9_optimal_73 : decode cX9_optimal 73 = .ok (.getfield 25, 3) := by decide +kernel
theorem dX9_optimal_76 : decode cX9_optimal 76 = .ok (.iload_n 1, 1) := by decide +kernel
theorem dX9_optimal_77 : decode cX9_optimal 77 = .ok (.iconst 2, 1) := by decide +kernel
theorem dX9_optimal_78 : decode cX9_optimal 78 = .ok (.isub, 1) := by decide +kernel
theorem dX9_optimal_79 : decode cX9_optimal 79 = .ok (.iaload, 1) := by decide +kernel
theorem dX9_optimal_80 : decode cX9_optimal 80 = .ok (.iload_n 3, 1) := by decide +kernel
theorem dX9_optimal_81 : decode cX9_optimal 81 = .ok (.if_icmp .ne 18, 3) := by decide +kernel
theorem dX9_optimal_84 : decode cX9_optimal 84 = .ok (.aload_n 0, 1) := by decide +kernel
theorem dX9_optimal_85 : decode cX9_optimal 85 = .ok (.iload_n 1, 1) := by decide +kernel
theorem dX9_optimal_86 : decode cX9_optimal 86 = .ok (.iconst 1, 1) := by decide +kernel
theorem dX9_optimal_87 : decode cX9_optimal 87 = .ok (.isub, 1) := by decide +kernel
theorem dX9_optimal_88 : decode cX9_optimal 88 = .ok (.invokevirtual 152, 3) := by decide +kernel
theorem dX9_optimal_91 : decode cX9_optimal 91 = .ok (.iconst (-1), 1) := by decide +kernel
theorem dX9_optimal_92 : decode cX9_optimal 92 = .ok (.if_icmp .ne 7, 3) := by decide +kernel
theorem dX9_optimal_95 : decode cX9_optimal 95 = .ok (.iconst 1, 1) := by decide +kernel
theorem dX9_optimal_96 : decode cX9_optimal 96 = .ok (.goto 4, 3) := by decide +kernel
theorem dX9_optimal_99 : decode cX9_optimal 99 = .ok (.iconst 0, 1) := by decide +kernel
theorem dX9_optimal_100 : decode cX9_optimal 100 = .ok (.istore 4, 2) := by decide +kernel
theorem dX9_optimal_102 : decode cX9_optimal 102 = .ok (.iload 4, 2) := by decide +kernel
theorem dX9_optimal_104 : decode cX9_optimal 104 = .ok (.ifCond .ne (-37), 3) := by decide +kernel
theorem dX9_optimal_107 : decode cX9_optimal 107 = .ok (.aload_n 0, 1) := by decide +kernel
theorem dX9_optimal_108 : decode cX9_optimal 108 = .ok (.iload_n 1, 1) := by decide +kernel
theorem dX9_optimal_109 : decode cX9_optimal 109 = .ok (.iconst 1, 1) := by decide +kernel
theorem dX9_optimal_110 : decode cX9_optimal 110 = .ok (.isub, 1) := by decide +kernel
theorem dX9_optimal_111 : decode cX9_optimal 111 = .ok (.iload_n 3, 1) := by decide +kernel
theorem dX9_optimal_112 : decode cX9_optimal 112 = .ok (.invokevirtual 155, 3) := by decide +kernel
theorem dX9_optimal_115 : decode cX9_optimal 115 = .ok (.ifCond .ne (-48), 3) := by decide +kernel
theorem dX9_optimal_118 : decode cX9_optimal 118 = .ok (.iinc 3 1, 3) := by decide +kernel
theorem dX9_optimal_121 : decode cX9_optimal 121 = .ok (.aload_n 0, 1) := by decide +kernel
theorem dX9_optimal_122 : decode cX9_optimal 122 = .ok (.iload_n 1, 1) := by decide +kernel
theorem dX9_optimal_123 : decode cX9_optimal 123 = .ok (.iconst 1, 1) := by decide +kernel
theorem dX9_optimal_124 : decode cX9_optimal 124 = .ok (.isub, 1) := by decide +kernel
theorem dX9_optimal_125 : decode cX9_optimal 125 = .ok (.iconst 1, 1) := by decide +kernel
theorem dX9_optimal_126 : decode cX9_optimal 126 = .ok (.invokevirtual 149, 3) := by decide +kernel
theorem dX9_optimal_129 : decode cX9_optimal 129 = .ok (.goto (-62), 3) := by decide +kernel
theorem dX9_optimal_132 : decode cX9_optimal 132 = .ok (.aload_n 0, 1) := by decide +kernel
theorem dX9_optimal_133 : decode cX9_optimal 133 = .ok (.iload_n 1, 1) := by decide +kernel
theorem dX9_optimal_134 : decode cX9_optimal 134 = .ok (.iconst 1, 1) := by decide +kernel
theorem dX9_optimal_135 : decode cX9_optimal 135 = .ok (.isub, 1) := by decide +kernel
theorem dX9_optimal_136 : decode cX9_optimal 136 = .ok (.invokevirtual 158, 3) := by decide +kernel
theorem dX9_optimal_139 : decode cX9_optimal 139 = .ok (.aload_n 0, 1) := by decide +kernel
theorem dX9_optimal_140 : decode cX9_optimal 140 = .ok (.iload_n 2, 1) := by decide +kernel
theorem dX9_optimal_141 : decode cX9_optimal 141 = .ok (.invokevirtual 74, 3) := by decide +kernel
theorem dX9_optimal_144 : decode cX9_optimal 144 = .ok (.pop, 1) := by decide +kernel
theorem dX9_optimal_145 : decode cX9_optimal 145 = .ok (.aload_n 0, 1) := by decide +kernel
theorem dX9_optimal_146 : decode cX9_optimal 146 = .ok (.iload_n 2, 1) := by decide +kernel
theorem dX9_optimal_147 : decode cX9_optimal 147 = .ok (.invokevirtual 77, 3) := by decide +kernel
theorem dX9_optimal_150 : decode cX9_optimal 150 = .ok (.ireturn, 1) := by decide +kernel
set_option maxRecDepth 20000 in
theorem ggX9_skips_X9_clash : GoodIn wsX9_skips wsX9_clash := goodIn_r _ [6, 1, 11, 12, 13, 14, 15, 16, 17, 18, 19, 20] (by decide +kernel) (by decide +kernel)
set_option maxRecDepth 20000 in
theorem gX9_skips_X9_clash : GoodIn wsX9_skips (wsV RX9 152 RX9 yX9_clash wsX9_clash) := goodIn_app (goodIn_of _ (by decide +kernel)) ggX9_skips_X9_clash
set_option maxRecDepth 20000 in
theorem ggX9_skips_X9_picksNext : GoodIn wsX9_skips wsX9_picksNext := goodIn_r _ [10, 1, 11, 12, 13, 14, 15, 16, 17, 18, 19, 20] (by decide +kernel) (by decide +kernel)
set_option maxRecDepth 20000 in
theorem gX9_skips_X9_picksNext : GoodIn wsX9_skips (wsV RX9 161 RX9 yX9_picksNext wsX9_picksNext) := goodIn_app (goodIn_of _ (by decide +kernel)) ggX9_skips_X9_picksNext
theorem dX9_skips_0 : decode cX9_skips 0 = .ok (.aload_n 0, 1) := by decide +kernel
theorem dX9_skips_1 : decode cX9_skips 1 = .ok (.iload_n 1, 1) := by decide +kernel
theorem dX9_skips_2 : decode cX9_skips 2 = .ok (.invokevirtual 152, 3) := by decide +kernel
theorem dX9_skips_5 : decode cX9_skips 5 = .ok (.istore_n 3, 1) := by decide +kernel
theorem dX9_skips_6 : decode cX9_skips 6 = .ok (.iload_n 3, 1) := by decide +kernel
theorem dX9_skips_7 : decode cX9_skips 7 = .ok (.iconst 1, 1) := by decide +kernel
theorem dX9_skips_8 : decode cX9_skips 8 = .ok (.iadd, 1) := by decide +kernel
theorem dX9_skips_9 : decode cX9_skips 9 = .ok (.istore 4, 2) := by decide +kernel
theorem dX9_skips_11 : decode cX9_skips 11 = .ok (.iload 4, 2) := by decide +kernel
theorem dX9_skips_13 : decode cX9_skips 13 = .ok (.iload_n 1, 1) := by decide +kernel
theorem dX9_skips_14 : decode cX9_skips 14 = .ok (.if_icmp .ge 29, 3) := by decide +kernel
theorem dX9_skips_17 : decode cX9_skips 17 = .ok (.iload_n 3, 1) := by decide +kernel
theorem dX9_skips_18 : decode cX9_skips 18 = .ok (.iconst (-1), 1) := by decide +kernel
theorem dX9_skips_19 : decode cX9_skips 19 = .ok (.if_icmp .eq 24, 3) := by decide +kernel
theorem dX9_skips_22 : decode cX9_skips 22 = .ok (.aload_n 0, 1) := by decide +kernel
theorem dX9_skips_23 : decode cX9_skips 23 = .ok (.getfield 25, 3) := by decide +kernel
theorem dX9_skips_26 : decode cX9_skips 26 = .ok (.iload 4, 2) := by decide +kernel
theorem dX9_skips_28 : decode cX9_skips 28 = .ok (.iload_n 2, 1) := by decide +kernel
theorem dX9_skips_29 : decode cX9_skips 29 = .ok (.iload_n 1, 1) := by decide +kernel
theorem dX9_skips_30 : decode cX9_skips 30 = .ok (.iconst 1, 1) := by decide +kernel
theorem dX9_skips_31 : decode cX9_skips 31 = .ok (.isub, 1) := by decide +kernel
theorem dX9_skips_32 : decode cX9_skips 32 = .ok (.iload 4, 2) := by decide +kernel
theorem dX9_skips_34 : decode cX9_skips 34 = .ok (.isub, 1) := by decide +kernel
theorem dX9_skips_35 : decode cX9_skips 35 = .ok (.isub, 1) := by decide +kernel
theorem dX9_skips_36 : decode cX9_skips 36 = .ok (.iastore, 1) := by decide +kernel
theorem dX9_skips_37 : decode cX9_skips 37 = .ok (.iinc 4 1, 3) := by decide +kernel
theorem dX9_skips_40 : decode cX9_skips 40 = .ok (.goto (-29), 3) := by decide +kernel
theorem dX9_skips_43 : decode cX9_skips 43 = .ok (.aload_n 0, 1) := by decide +kernel
theorem dX9_skips_44 : decode cX9_skips 44 = .ok (.iload_n 1, 1) := by decide +kernel
theorem dX9_skips_45 : decode cX9_skips 45 = .ok (.iload_n 2, 1) := by decide +kernel
theorem dX9_skips_46 : decode cX9_skips 46 = .ok (.invokevirtual 161, 3) := by decide +kernel
theorem dX9_skips_49 : decode cX9_skips 49 = .ok (.ireturn, 1) := by decide +kernel
theorem dX9_isComplete_0 : decode cX9_isComplete 0 = .ok (.iconst 1, 1) := by decide +kernel
theorem dX9_isComplete_1 : decode cX9_isComplete 1 = .ok (.istore_n 2, 1) := by decide +kernel
theorem dX9_isComplete_2 : decode cX9_isComplete 2 = .ok (.iconst 1, 1) := by decide +kernel
theorem dX9_isComplete_3 : decode cX9_isComplete 3 = .ok (.istore_n 3, 1) := by decide +kernel
theorem dX9_isComplete_4 : decode cX9_isComplete 4 = .ok (.iload_n 3, 1) := by decide +kernel
theorem dX9_isComplete_5 : decode cX9_isComplete 5 = .ok (.iload_n 1, 1) := by decide +kernel
theorem dX9_isComplete_6 : decode cX9_isComplete 6 = .ok (.if_icmp .gt 27, 3) := by decide +kernel
theorem dX9_isComplete_9 : decode cX9_isComplete 9 = .ok (.iload_n 2, 1) := by decide +kernel
theorem dX9_isComplete_10 : decode cX9_isComplete 10 = .ok (.ifCond .eq 23, 3) := by decide +kernel
theorem dX9_isComplete_13 : decode cX9_isComplete 13 = .ok (.iload_n 0, 1) := by decide +kernel
theorem dX9_isComplete_14 : decode cX9_isComplete 14 = .ok (.iload_n 0, 1) := by decide +kernel
theorem dX9_isComplete_15 : decode cX9_isComplete 15 = .ok (.iload_n 3, 1) := by decide +kernel
theorem dX9_isComplete_16 : decode cX9_isComplete 16 = .ok (.ishr, 1) := by decide +kernel
theorem dX9_isComplete_17 : decode cX9_isComplete 17 = .ok (.iand, 1) := by decide +kernel
theorem dX9_isComplete_18 : decode cX9_isComplete 18 = .ok (.ifCond .eq 7, 3) := by decide +kernel
theorem dX9_isComplete_21 : decode cX9_isComplete 21 = .ok (.iconst 1, 1) := by decide +kernel
theorem dX9_isComplete_22 : decode cX9_isComplete 22 = .ok (.goto 4, 3) := by decide +kernel
theorem dX9_isComplete_25 : decode cX9_isComplete 25 = .ok (.iconst 0, 1) := by decide +kernel
theorem dX9_isComplete_26 : decode cX9_isComplete 26 = .ok (.istore_n 2, 1) := by decide +kernel
theorem dX9_isComplete_27 : decode cX9_isComplete 27 = .ok (.iinc 3 1, 3) := by decide +kernel
theorem dX9_isComplete_30 : decode cX9_isComplete 30 = .ok (.goto (-26), 3) := by decide +kernel
theorem dX9_isComplete_33 : decode cX9_isComplete 33 = .ok (.iload_n 2, 1) := by decide +kernel
theorem dX9_isComplete_34 : decode cX9_isComplete 34 = .ok (.ireturn, 1) := by decide +kernel
set_option maxRecDepth 20000 in
theorem ggX9_sparse_X9_isSet : GoodIn wsX9_sparse wsX9_isSet := goodIn_r _ [5, 6, 7, 4, 8] (by decide +kernel) (by decide +kernel)
set_option maxRecDepth 20000 in
theorem gX9_sparse_X9_isSet : GoodIn wsX9_sparse (va_wsS RX9 61 yX9_isSet wsX9_isSet) := goodIn_app (goodIn_of _ (by decide +kernel)) ggX9_sparse_X9_isSet
set_option maxRecDepth 20000 in
theorem ggX9_sparse_X9_within : GoodIn wsX9_sparse wsX9_within := goodIn_r _ [8] (by decide +kernel) (by decide +kernel)
set_option maxRecDepth 20000 in
theorem gX9_sparse_X9_within : GoodIn wsX9_sparse (va_wsS RX9 32 yX9_within wsX9_within) := goodIn_app (goodIn_of _ (by decide +kernel)) ggX9_sparse_X9_within
set_option maxRecDepth 20000 in
theorem ggX9_sparse_X9_refused : GoodIn wsX9_sparse wsX9_refused := goodIn_r _ [12, 13, 50, 51, 52, 53, 54, 55, 56, 57, 58, 59] (by decide +kernel) (by decide +kernel)
set_option maxRecDepth 20000 in
theorem gX9_sparse_X9_refused : GoodIn wsX9_sparse (wsV RX9 39 RX9 yX9_refused wsX9_refused) := goodIn_app (goodIn_of _ (by decide +kernel)) ggX9_sparse_X9_refused
set_option maxRecDepth 20000 in
theorem ggX9_sparse_X9_saves : GoodIn wsX9_sparse wsX9_saves := goodIn_r _ [17, 18, 19, 20, 50, 51, 52, 53, 54, 55, 56, 57, 58, 59] (by decide +kernel) (by decide +kernel)
set_option maxRecDepth 20000 in
theorem gX9_sparse_X9_saves : GoodIn wsX9_sparse (wsV RX9 67 RX9 yX9_saves wsX9_saves) := goodIn_app (goodIn_of _ (by decide +kernel)) ggX9_sparse_X9_saves
set_option maxRecDepth 20000 in
theorem ggX9_sparse_X9_picksFirst : GoodIn wsX9_sparse wsX9_picksFirst := goodIn_r _ [24, 1, 50, 51, 52, 53, 54, 55, 56, 57, 58, 59] (by decide +kernel) (by decide +kernel)
set_option maxRecDepth 20000 in
theorem gX9_sparse_X9_picksFirst : GoodIn wsX9_sparse (wsV RX9 149 RX9 yX9_picksFirst wsX9_picksFirst) := goodIn_app (goodIn_of _ (by decide +kernel)) ggX9_sparse_X9_picksFirst
set_option maxRecDepth 20000 in
theorem ggX9_sparse_X9_isComplete : GoodIn wsX9_sparse wsX9_isComplete := goodIn_r _ [27] (by decide +kernel) (by decide +kernel)
set_option maxRecDepth 20000 in
theorem gX9_sparse_X9_isComplete : GoodIn wsX9_sparse (va_wsS RX9 164 yX9_isComplete wsX9_isComplete) := goodIn_app (goodIn_of _ (by decide +kernel)) ggX9_sparse_X9_isComplete
set_option maxRecDepth 20000 in
theorem ggX9_sparse_X9_picksNext : GoodIn wsX9_sparse wsX9_picksNext := goodIn_r _ [31, 1, 50, 51, 52, 53, 54, 55, 56, 57, 58, 59] (by decide +kernel) (by decide +kernel)
set_option maxRecDepth 20000 in
theorem gX9_sparse_X9_picksNext : GoodIn wsX9_sparse (wsV RX9 161 RX9 yX9_picksNext wsX9_picksNext) := goodIn_app (goodIn_of _ (by decide +kernel)) ggX9_sparse_X9_picksNext
set_option maxRecDepth 20000 in
theorem ggX9_sparse_X9_makes : GoodIn wsX9_sparse wsX9_makes := goodIn_r _ [35, 1, 36, 37, 38, 4, 39, 40, 41, 42, 43, 44, 45, 50, 51, 52, 53, 54, 55, 56, 57, 58, 59] (by decide +kernel) (by decide +kernel)
set_option maxRecDepth 20000 in
theorem gX9_sparse_X9_makes : GoodIn wsX9_sparse (wsV RX9 158 RX9 yX9_makes wsX9_makes) := goodIn_app (goodIn_of _ (by decide +kernel)) ggX9_sparse_X9_makes
set_option maxRecDepth 20000 in
theorem ggX9_sparse_X9_comes : GoodIn wsX9_sparse wsX9_comes := goodIn_r _ [44, 40, 45, 50, 51, 52, 53, 54, 55, 56, 57, 58, 59] (by decide +kernel) (by decide +kernel)
set_option maxRecDepth 20000 in
theorem gX9_sparse_X9_comes : GoodIn wsX9_sparse (wsV RX9 57 RX9 yX9_comes wsX9_comes) := goodIn_app (goodIn_of _ (by decide +kernel)) ggX9_sparse_X9_comes
set_option maxRecDepth 20000 in
theorem ggX9_sparse_X9_becomes : GoodIn wsX9_sparse wsX9_becomes := goodIn_r _ [49, 20, 40, 45, 50, 51, 52, 53, 54, 55, 56, 57, 58, 59] (by decide +kernel) (by decide +kernel)
set_option maxRecDepth 20000 in
theorem gX9_sparse_X9_becomes : GoodIn wsX9_sparse (wsV RX9 74 RX9 yX9_becomes wsX9_becomes) := goodIn_app (goodIn_of _ (by decide +kernel)) ggX9_sparse_X9_becomes
theorem dX9_sparse_0 : decode cX9_sparse 0 = .ok (.aload_n 0, 1) := by decide +kernel
theorem dX9_sparse_1 : decode cX9_sparse 1 = .ok (.iload_n 2, 1) := by decide +kernel
theorem dX9_sparse_2 : decode cX9_sparse 2 = .ok (.invokestatic 61, 3) := by decide +kernel
theorem dX9_sparse_5 : decode cX9_sparse 5 = .ok (.ifCond .ne 7, 3) := by decide +kernel
theorem dX9_sparse_8 : decode cX9_sparse 8 = .ok (.iconst 1, 1) := by decide +kernel
theorem dX9_sparse_9 : decode cX9_sparse 9 = .ok (.goto 18, 3) := by decide +kernel
theorem dX9_sparse_12 : decode cX9_sparse 12 = .ok (.iload_n 1, 1) := by decide +kernel
theorem dX9_sparse_13 : decode cX9_sparse 13 = .ok (.iconst 1, 1) := by decide +kernel
theorem dX9_sparse_14 : decode cX9_sparse 14 = .ok (.bipush 20, 2) := by decide +kernel
theorem dX9_sparse_16 : decode cX9_sparse 16 = .ok (.invokestatic 32, 3) := by decide +kernel
theorem dX9_sparse_19 : decode cX9_sparse 19 = .ok (.ifCond .eq 7, 3) := by decide +kernel
theorem dX9_sparse_22 : decode cX9_sparse 22 = .ok (.iconst 0, 1) := by decide +kernel
theorem dX9_sparse_23 : decode cX9_sparse 23 = .ok (.goto 4, 3) := by decide +kernel
theorem dX9_sparse_26 : decode cX9_sparse 26 = .ok (.iconst 2, 1) := by decide +kernel
theorem dX9_sparse_27 : decode cX9_sparse 27 = .ok (.invokevirtual 39, 3) := by decide +kernel
theorem dX9_sparse_30 : decode cX9_sparse 30 = .ok (.ifCond .eq 5, 3) := by decide +kernel
theorem dX9_sparse_33 : decode cX9_sparse 33 = .ok (.iconst 0, 1) := by decide +kernel
theorem dX9_sparse_34 : decode cX9_sparse 34 = .ok (.ireturn, 1) := by decide +kernel
theorem dX9_sparse_35 : decode cX9_sparse 35 = .ok (.aload_n 0, 1) := by decide +kernel
theorem dX9_sparse_36 : decode cX9_sparse 36 = .ok (.invokevirtual 67, 3) := by decide +kernel
theorem dX9_sparse_39 : decode cX9_sparse 39 = .ok (.iconst 0, 1) := by decide +kernel
theorem dX9_sparse_40 : decode cX9_sparse 40 = .ok (.istore_n 3, 1) := by decide +kernel
theorem dX9_sparse_41 : decode cX9_sparse 41 = .ok (.iconst 0, 1) := by decide +kernel
theorem dX9_sparse_42 : decode cX9_sparse 42 = .ok (.istore 4, 2) := by decide +kernel
theorem dX9_sparse_44 : decode cX9_sparse 44 = .ok (.aload_n 0, 1) := by decide +kernel
theorem dX9_sparse_45 : decode cX9_sparse 45 = .ok (.iconst 0, 1) := by decide +kernel
theorem dX9_sparse_46 : decode cX9_sparse 46 = .ok (.iconst 1, 1) := by decide +kernel
theorem dX9_sparse_47 : decode cX9_sparse 47 = .ok (.invokevirtual 149, 3) := by decide +kernel
theorem dX9_sparse_50 : decode cX9_sparse 50 = .ok (.iload 4, 2) := by decide +kernel
theorem dX9_sparse_52 : decode cX9_sparse 52 = .ok (.ifCond .ne 75, 3) := by decide +kernel
theorem dX9_sparse_55 : decode cX9_sparse 55 = .ok (.iconst 1, 1) := by decide +kernel
theorem dX9_sparse_56 : decode cX9_sparse 56 = .ok (.iconst 1, 1) := by decide +kernel
theorem dX9_sparse_57 : decode cX9_sparse 57 = .ok (.iload_n 1, 1) := by decide +kernel
theorem dX9_sparse_58 : decode cX9_sparse 58 = .ok (.ishl, 1) := by decide +kernel
theorem dX9_sparse_59 : decode cX9_sparse 59 = .ok (.ior, 1) := by decide +kernel
theorem dX9_sparse_60 : decode cX9_sparse 60 = .ok (.istore 5, 2) := by decide +kernel
theorem dX9_sparse_62 : decode cX9_sparse 62 = .ok (.iconst 0, 1) := by decide +kernel
theorem dX9_sparse_63 : decode cX9_sparse 63 = .ok (.istore 6, 2) := by decide +kernel
theorem dX9_sparse_65 : decode cX9_sparse 65 = .ok (.iload 6, 2) := by decide +kernel
theorem dX9_sparse_67 : decode cX9_sparse 67 = .ok (.iload_n 3, 1) := by decide +kernel
theorem dX9_sparse_68 : decode cX9_sparse 68 = .ok (.if_icmp .ge 23, 3) := by decide +kernel
theorem dX9_sparse_71 : decode cX9_sparse 71 = .ok (.iload 5, 2) := by decide +kernel
theorem dX9_sparse_73 : decode cX9_sparse 73 = .ok (.iconst 1, 1) := by decide +kernel
theorem dX9_sparse_74 : decode cX9_sparse 74 = .ok (.aload_n 0, 1) := by decide +kernel
theorem dX9_sparse_75 : decode cX9_sparse 75 = .ok (.getfield 25, 3) := by decide +kernel
theorem dX9_sparse_78 : decode cX9_sparse 78 = .ok (.iload 6, 2) := by decide +kernel
theorem dX9_sparse_80 : decode cX9_sparse 80 = .ok (.iaload, 1) := by decide +kernel
theorem dX9_sparse_81 : decode cX9_sparse 81 = .ok (.ishl, 1) := by decide +kernel
theorem dX9_sparse_82 : decode cX9_sparse 82 = .ok (.ior, 1) := by decide +kernel
theorem dX9_sparse_83 : decode cX9_sparse 83 = .ok (.istore 5, 2) := by decide +kernel
theorem dX9_sparse_85 : decode cX9_sparse 85 = .ok (.iinc 6 1, 3) := by decide +kernel
theorem dX9_sparse_88 : decode cX9_sparse 88 = .ok (.goto (-23), 3) := by decide +kernel
theorem dX9_sparse_91 : decode cX9_sparse 91 = .ok (.iload 5, 2) := by decide +kernel
theorem dX9_sparse_93 : decode cX9_sparse 93 = .ok (.iload_n 1, 1) := by decide +kernel
theorem dX9_sparse_94 : decode cX9_sparse 94 = .ok (.invokestatic 164, 3) := by decide +kernel
theorem dX9_sparse_97 : decode cX9_sparse 97 = .ok (.istore 4, 2) := by decide +kernel
theorem dX9_sparse_99 : decode cX9_sparse 99 = .ok (.iload 4, 2) := by decide +kernel
theorem dX9_sparse_101 : decode cX9_sparse 101 = .ok (.ifCond .ne 23, 3) := by decide +kernel
theorem dX9_sparse_104 : decode cX9_sparse 104 = .ok (.aload_n 0, 1) := by decide +kernel
theorem dX9_sparse_105 : decode cX9_sparse 105 = .ok (.iload_n 3, 1) := by decide +kernel
theorem dX9_sparse_106 : decode cX9_sparse 106 = .ok (.iload_n 1, 1) := by decide +kernel
theorem dX9_sparse_107 : decode cX9_sparse 107 = .ok (.iconst 1, 1) := by decide +kernel
theorem dX9_sparse_108 : decode cX9_sparse 108 = .ok (.isub, 1) := by decide +kernel
theorem dX9_sparse_109 : decode cX9_sparse 109 = .ok (.invokevirtual 161, 3) := by decide +kernel
theorem dX9_sparse_112 : decode cX9_sparse 112 = .ok (.ifCond .ne 12, 3) := by decide +kernel
theorem dX9_sparse_115 : decode cX9_sparse 115 = .ok (.iinc 3 1, 3) := by decide +kernel
theorem dX9_sparse_118 : decode cX9_sparse 118 = .ok (.aload_n 0, 1) := by decide +kernel
theorem dX9_sparse_119 : decode cX9_sparse 119 = .ok (.iload_n 3, 1) := by decide +kernel
theorem dX9_sparse_120 : decode cX9_sparse 120 = .ok (.iconst 1, 1) := by decide +kernel
theorem dX9_sparse_121 : decode cX9_sparse 121 = .ok (.invokevirtual 149, 3) := by decide +kernel
theorem dX9_sparse_124 : decode cX9_sparse 124 = .ok (.goto (-74), 3) := by decide +kernel
theorem dX9_sparse_127 : decode cX9_sparse 127 = .ok (.aload_n 0, 1) := by decide +kernel
theorem dX9_sparse_128 : decode cX9_sparse 128 = .ok (.iload_n 3, 1) := by decide +kernel
theorem dX9_sparse_129 : decode cX9_sparse 129 = .ok (.invokevirtual 158, 3) := by decide +kernel
theorem dX9_sparse_132 : decode cX9_sparse 132 = .ok (.aload_n 0, 1) := by decide +kernel
theorem dX9_sparse_133 : decode cX9_sparse 133 = .ok (.iload_n 1, 1) := by decide +kernel
theorem dX9_sparse_134 : decode cX9_sparse 134 = .ok (.invokevirtual 57, 3) := by decide +kernel
theorem dX9_sparse_137 : decode cX9_sparse 137 = .ok (.aload_n 0, 1) := by decide +kernel
theorem dX9_sparse_138 : decode cX9_sparse 138 = .ok (.iload_n 2, 1) := by decide +kernel
theorem dX9_sparse_139 : decode cX9_sparse 139 = .ok (.invokevirtual 74, 3) := by decide +kernel
theorem dX9_sparse_142 : decode cX9_sparse 142 = .ok (.ireturn, 1) := by decide +kernel
theorem dX9_alike_0 : decode cX9_alike 0 = .ok (.iconst 0, 1) := by decide +kernel
theorem dX9_alike_1 : decode cX9_alike 1 = .ok (.istore_n 3, 1) := by decide +kernel
theorem dX9_alike_2 : decode cX9_alike 2 = .ok (.iload_n 3, 1) := by decide +kernel
theorem dX9_alike_3 : decode cX9_alike 3 = .ok (.iload_n 2, 1) := by decide +kernel
theorem dX9_alike_4 : decode cX9_alike 4 = .ok (.if_icmp .ge 16, 3) := by decide +kernel
theorem dX9_alike_7 : decode cX9_alike 7 = .ok (.aload_n 0, 1) := by decide +kernel
theorem dX9_alike_8 : decode cX9_alike 8 = .ok (.getfield 19, 3) := by decide +kernel
theorem dX9_alike_11 : decode cX9_alike 11 = .ok (.iload_n 3, 1) := by decide +kernel
theorem dX9_alike_12 : decode cX9_alike 12 = .ok (.iconst 0, 1) := by decide +kernel
theorem dX9_alike_13 : decode cX9_alike 13 = .ok (.iastore, 1) := by decide +kernel
theorem dX9_alike_14 : decode cX9_alike 14 = .ok (.iinc 3 1, 3) := by decide +kernel
theorem dX9_alike_17 : decode cX9_alike 17 = .ok (.goto (-15), 3) := by decide +kernel
theorem dX9_alike_20 : decode cX9_alike 20 = .ok (.iconst (-1), 1) := by decide +kernel
theorem dX9_alike_21 : decode cX9_alike 21 = .ok (.istore_n 3, 1) := by decide +kernel
theorem dX9_alike_22 : decode cX9_alike 22 = .ok (.iload_n 3, 1) := by decide +kernel
theorem dX9_alike_23 : decode cX9_alike 23 = .ok (.iload_n 1, 1) := by decide +kernel
theorem dX9_alike_24 : decode cX9_alike 24 = .ok (.if_icmp .ge 80, 3) := by decide +kernel
theorem dX9_alike_27 : decode cX9_alike 27 = .ok (.iconst (-1), 1) := by decide +kernel
theorem dX9_alike_28 : decode cX9_alike 28 = .ok (.istore 4, 2) := by decide +kernel
theorem dX9_alike_30 : decode cX9_alike 30 = .ok (.iload 4, 2) := by decide +kernel
theorem dX9_alike_32 : decode cX9_alike 32 = .ok (.iload_n 1, 1) := by decide +kernel
theorem dX9_alike_33 : decode cX9_alike 33 = .ok (.if_icmp .ge 65, 3) := by decide +kernel
theorem dX9_alike_36 : decode cX9_alike 36 = .ok (.iload_n 3, 1) := by decide +kernel
theorem dX9_alike_37 : decode cX9_alike 37 = .ok (.ifCond .ge 7, 3) := by decide +kernel
theorem dX9_alike_40 : decode cX9_alike 40 = .ok (.iconst 0, 1) := by decide +kernel
theorem dX9_alike_41 : decode cX9_alike 41 = .ok (.goto 9, 3) := by decide +kernel
theorem dX9_alike_44 : decode cX9_alike 44 = .ok (.aload_n 0, 1) := by decide +kernel
theorem dX9_alike_45 : decode cX9_alike 45 = .ok (.getfield 25, 3) := by decide +kernel
theorem dX9_alike_48 : decode cX9_alike 48 = .ok (.iload_n 3, 1) := by decide +kernel
theorem dX9_alike_49 : decode cX9_alike 49 = .ok (.iaload, 1) := by decide +kernel
theorem dX9_alike_50 : decode cX9_alike 50 = .ok (.iload 4, 2) := by decide +kernel
theorem dX9_alike_52 : decode cX9_alike 52 = .ok (.ifCond .ge 7, 3) := by decide +kernel
theorem dX9_alike_55 : decode cX9_alike 55 = .ok (.iconst 0, 1) := by decide +kernel
theorem dX9_alike_56 : decode cX9_alike 56 = .ok (.goto 10, 3) := by decide +kernel
theorem dX9_alike_59 : decode cX9_alike 59 = .ok (.aload_n 0, 1) := by decide +kernel
theorem dX9_alike_60 : decode cX9_alike 60 = .ok (.getfield 25, 3) := by decide +kernel
theorem dX9_alike_63 : decode cX9_alike 63 = .ok (.iload 4, 2) := by decide +kernel
theorem dX9_alike_65 : decode cX9_alike 65 = .ok (.iaload, 1) := by decide +kernel
theorem dX9_alike_66 : decode cX9_alike 66 = .ok (.isub, 1) := by decide +kernel
theorem dX9_alike_67 : decode cX9_alike 67 = .ok (.istore 5, 2) := by decide +kernel
theorem dX9_alike_69 : decode cX9_alike 69 = .ok (.aload_n 0, 1) := by decide +kernel
theorem dX9_alike_70 : decode cX9_alike 70 = .ok (.getfield 19, 3) := by decide +kernel
theorem dX9_alike_73 : decode cX9_alike 73 = .ok (.iload 5, 2) := by decide +kernel
theorem dX9_alike_75 : decode cX9_alike 75 = .ok (.ifCond .ge 10, 3) := by decide +kernel
theorem dX9_alike_78 : decode cX9_alike 78 = .ok (.iload 5, 2) := by decide +kernel
theorem dX9_alike_80 : decode cX9_alike 80 = .ok (.iload_n 2, 1) := by decide +kernel
theorem dX9_alike_81 : decode cX9_alike 81 = .ok (.iadd, 1) := by decide +kernel
theorem dX9_alike_82 : decode cX9_alike 82 = .ok (.goto 5, 3) := by decide +kernel
theorem dX9_alike_85 : decode cX9_alike 85 = .ok (.iload 5, 2) := by decide +kernel
theorem dX9_alike_87 : decode cX9_alike 87 = .ok (.dup2, 1) := by decide +kernel
theorem dX9_alike_88 : decode cX9_alike 88 = .ok (.iaload, 1) := by decide +kernel
theorem dX9_alike_89 : decode cX9_alike 89 = .ok (.iconst 1, 1) := by decide +kernel
theorem dX9_alike_90 : decode cX9_alike 90 = .ok (.iadd, 1) := by decide +kernel
theorem dX9_alike_91 : decode cX9_alike 91 = .ok (.iastore, 1) := by decide +kernel
theorem dX9_alike_92 : decode cX9_alike 92 = .ok (.iinc 4 1, 3) := by decide +kernel
theorem dX9_alike_95 : decode cX9_alike 95 = .ok (.goto (-65), 3) := by decide +kernel
theorem dX9_alike_98 : decode cX9_alike 98 = .ok (.iinc 3 1, 3) := by decide +kernel
theorem dX9_alike_101 : decode cX9_alike 101 = .ok (.goto (-79), 3) := by decide +kernel
theorem dX9_alike_104 : decode cX9_alike 104 = .ok (.iconst 1, 1) := by decide +kernel
theorem dX9_alike_105 : decode cX9_alike 105 = .ok (.istore_n 3, 1) := by decide +kernel
theorem dX9_alike_106 : decode cX9_alike 106 = .ok (.iconst 2, 1) := by decide +kernel
theorem dX9_alike_107 : decode cX9_alike 107 = .ok (.istore 4, 2) := by decide +kernel
theorem dX9_alike_109 : decode cX9_alike 109 = .ok (.iload 4, 2) := by decide +kernel
theorem dX9_alike_111 : decode cX9_alike 111 = .ok (.iload_n 2, 1) := by decide +kernel
theorem dX9_alike_112 : decode cX9_alike 112 = .ok (.if_icmp .ge 35, 3) := by decide +kernel
theorem dX9_alike_115 : decode cX9_alike 115 = .ok (.iload_n 3, 1) := by decide +kernel
theorem dX9_alike_116 : decode cX9_alike 116 = .ok (.ifCond .eq 23, 3) := by decide +kernel
theorem dX9_alike_119 : decode cX9_alike 119 = .ok (.aload_n 0, 1) := by decide +kernel
theorem dX9_alike_120 : decode cX9_alike 120 = .ok (.getfield 19, 3) := by decide +kernel
theorem dX9_alike_123 : decode cX9_alike 123 = .ok (.iload 4, 2) := by decide +kernel
theorem dX9_alike_125 : decode cX9_alike 125 = .ok (.iaload, 1) := by decide +kernel
theorem dX9_alike_126 : decode cX9_alike 126 = .ok (.aload_n 0, 1) := by decide +kernel
theorem dX9_alike_127 : decode cX9_alike 127 = .ok (.getfield 19, 3) := by decide +kernel
theorem dX9_alike_130 : decode cX9_alike 130 = .ok (.iconst 1, 1) := by decide +kernel
theorem dX9_alike_131 : decode cX9_alike 131 = .ok (.iaload, 1) := by decide +kernel
theorem dX9_alike_132 : decode cX9_alike 132 = .ok (.if_icmp .ne 7, 3) := by decide +kernel
theorem dX9_alike_135 : decode cX9_alike 135 = .ok (.iconst 1, 1) := by decide +kernel
theorem dX9_alike_136 : decode cX9_alike 136 = .ok (.goto 4, 3) := by decide +kernel
theorem dX9_alike_139 : decode cX9_alike 139 = .ok (.iconst 0, 1) := by decide +kernel
theorem dX9_alike_140 : decode cX9_alike 140 = .ok (.istore_n 3, 1) := by decide +kernel
theorem dX9_alike_141 : decode cX9_alike 141 = .ok (.iinc 4 1, 3) := by decide +kernel
theorem dX9_alike_144 : decode cX9_alike 144 = .ok (.goto (-35), 3) := by decide +kernel
theorem dX9_alike_147 : decode cX9_alike 147 = .ok (.iload_n 3, 1) := by decide +kernel
theorem dX9_alike_148 : decode cX9_alike 148 = .ok (.ifCond .eq 12, 3) := by decide +kernel
theorem dX9_alike_151 : decode cX9_alike 151 = .ok (.aload_n 0, 1) := by decide +kernel
theorem dX9_alike_152 : decode cX9_alike 152 = .ok (.getfield 19, 3) := by decide +kernel
theorem dX9_alike_155 : decode cX9_alike 155 = .ok (.iconst 1, 1) := by decide +kernel
theorem dX9_alike_156 : decode cX9_alike 156 = .ok (.iaload, 1) := by decide +kernel
theorem dX9_alike_157 : decode cX9_alike 157 = .ok (.goto 4, 3) := by decide +kernel
theorem dX9_alike_160 : decode cX9_alike 160 = .ok (.iconst (-1), 1) := by decide +kernel
theorem dX9_alike_161 : decode cX9_alike 161 = .ok (.ireturn, 1) := by decide +kernel
set_option maxRecDepth 20000 in
theorem ggX9_firstDifferenceSet_X9_isSet : GoodIn wsX9_firstDifferenceSet wsX9_isSet := goodIn_r _ [5, 6, 7, 4, 8] (by decide +kernel) (by decide +kernel)
set_option maxRecDepth 20000 in
theorem gX9_firstDifferenceSet_X9_isSet : GoodIn wsX9_firstDifferenceSet (va_wsS RX9 61 yX9_isSet wsX9_isSet) := goodIn_app (goodIn_of _ (by decide +kernel)) ggX9_firstDifferenceSet_X9_isSet
set_option maxRecDepth 20000 in
theorem ggX9_firstDifferenceSet_X9_within : GoodIn wsX9_firstDifferenceSet wsX9_within := goodIn_r _ [8] (by decide +kernel) (by decide +kernel)
set_option maxRecDepth 20000 in
theorem gX9_firstDifferenceSet_X9_within : GoodIn wsX9_firstDifferenceSet (va_wsS RX9 32 yX9_within wsX9_within) := goodIn_app (goodIn_of _ (by decide +kernel)) ggX9_firstDifferenceSet_X9_within
set_option maxRecDepth 20000 in
theorem ggX9_firstDifferenceSet_X9_refused : GoodIn wsX9_firstDifferenceSet wsX9_refused := goodIn_r _ [12, 13, 52, 53, 54, 55, 56, 57, 58, 59, 60, 61] (by decide +kernel) (by decide +kernel)
set_option maxRecDepth 20000 in
theorem gX9_firstDifferenceSet_X9_refused : GoodIn wsX9_firstDifferenceSet (wsV RX9 39 RX9 yX9_refused wsX9_refused) := goodIn_app (goodIn_of _ (by decide +kernel)) ggX9_firstDifferenceSet_X9_refused
set_option maxRecDepth 20000 in
theorem ggX9_firstDifferenceSet_X9_picksFirst : GoodIn wsX9_firstDifferenceSet wsX9_picksFirst := goodIn_r _ [17, 18, 52, 53, 54, 55, 56, 57, 58, 59, 60, 61] (by decide +kernel) (by decide +kernel)
set_option maxRecDepth 20000 in
theorem gX9_firstDifferenceSet_X9_picksFirst : GoodIn wsX9_firstDifferenceSet (wsV RX9 149 RX9 yX9_picksFirst wsX9_picksFirst) := goodIn_app (goodIn_of _ (by decide +kernel)) ggX9_firstDifferenceSet_X9_picksFirst
set_option maxRecDepth 20000 in
theorem ggX9_firstDifferenceSet_X9_alike : GoodIn wsX9_firstDifferenceSet wsX9_alike := goodIn_r _ [22, 23, 18, 52, 53, 54, 55, 56, 57, 58, 59, 60, 61] (by decide +kernel) (by decide +kernel)
set_option maxRecDepth 20000 in
theorem gX9_firstDifferenceSet_X9_alike : GoodIn wsX9_firstDifferenceSet (wsV RX9 167 RX9 yX9_alike wsX9_alike) := goodIn_app (goodIn_of _ (by decide +kernel)) ggX9_firstDifferenceSet_X9_alike
set_option maxRecDepth 20000 in
theorem ggX9_firstDifferenceSet_X9_picksNext : GoodIn wsX9_firstDifferenceSet wsX9_picksNext := goodIn_r _ [27, 18, 52, 53, 54, 55, 56, 57, 58, 59, 60, 61] (by decide +kernel) (by decide +kernel)
set_option maxRecDepth 20000 in
theorem gX9_firstDifferenceSet_X9_picksNext : GoodIn wsX9_firstDifferenceSet (wsV RX9 161 RX9 yX9_picksNext wsX9_picksNext) := goodIn_app (goodIn_of _ (by decide +kernel)) ggX9_firstDifferenceSet_X9_picksNext
set_option maxRecDepth 20000 in
theorem ggX9_firstDifferenceSet_X9_saves : GoodIn wsX9_firstDifferenceSet wsX9_saves := goodIn_r _ [31, 32, 33, 1, 52, 53, 54, 55, 56, 57, 58, 59, 60, 61] (by decide +kernel) (by decide +kernel)
set_option maxRecDepth 20000 in
theorem gX9_firstDifferenceSet_X9_saves : GoodIn wsX9_firstDifferenceSet (wsV RX9 67 RX9 yX9_saves wsX9_saves) := goodIn_app (goodIn_of _ (by decide +kernel)) ggX9_firstDifferenceSet_X9_saves
set_option maxRecDepth 20000 in
theorem ggX9_firstDifferenceSet_X9_makes : GoodIn wsX9_firstDifferenceSet wsX9_makes := goodIn_r _ [37, 18, 38, 39, 40, 4, 41, 42, 43, 44, 45, 46, 47, 52, 53, 54, 55, 56, 57, 58, 59, 60, 61] (by decide +kernel) (by decide +kernel)
set_option maxRecDepth 20000 in
theorem gX9_firstDifferenceSet_X9_makes : GoodIn wsX9_firstDifferenceSet (wsV RX9 158 RX9 yX9_makes wsX9_makes) := goodIn_app (goodIn_of _ (by decide +kernel)) ggX9_firstDifferenceSet_X9_makes
set_option maxRecDepth 20000 in
theorem ggX9_firstDifferenceSet_X9_becomes : GoodIn wsX9_firstDifferenceSet wsX9_becomes := goodIn_r _ [51, 1, 42, 47, 52, 53, 54, 55, 56, 57, 58, 59, 60, 61] (by decide +kernel) (by decide +kernel)
set_option maxRecDepth 20000 in
theorem gX9_firstDifferenceSet_X9_becomes : GoodIn wsX9_firstDifferenceSet (wsV RX9 74 RX9 yX9_becomes wsX9_becomes) := goodIn_app (goodIn_of _ (by decide +kernel)) ggX9_firstDifferenceSet_X9_becomes
theorem dX9_firstDifferenceSet_0 : decode cX9_firstDifferenceSet 0 = .ok (.aload_n 0, 1) := by decide +kernel
theorem dX9_firstDifferenceSet_1 : decode cX9_firstDifferenceSet 1 = .ok (.iload_n 3, 1) := by decide +kernel
theorem dX9_firstDifferenceSet_2 : decode cX9_firstDifferenceSet 2 = .ok (.invokestatic 61, 3) := by decide +kernel
theorem dX9_firstDifferenceSet_5 : decode cX9_firstDifferenceSet 5 = .ok (.ifCond .ne 7, 3) := by decide +kernel
theorem dX9_firstDifferenceSet_8 : decode cX9_firstDifferenceSet 8 = .ok (.iconst 1, 1) := by decide +kernel
theorem dX9_firstDifferenceSet_9 : decode cX9_firstDifferenceSet 9 = .ok (.goto 33, 3) := by decide +kernel
theorem dX9_firstDifferenceSet_12 : decode cX9_firstDifferenceSet 12 = .ok (.iload_n 1, 1) := by decide +kernel
theorem dX9_firstDifferenceSet_13 : decode cX9_firstDifferenceSet 13 = .ok (.iconst 3, 1) := by decide +kernel
theorem dX9_firstDifferenceSet_14 : decode cX9_firstDifferenceSet 14 = .ok (.bipush 31, 2) := by decide +kernel
theorem dX9_firstDifferenceSet_16 : decode cX9_firstDifferenceSet 16 = .ok (.invokestatic 32, 3) := by decide +kernel
theorem dX9_firstDifferenceSet_19 : decode cX9_firstDifferenceSet 19 = .ok (.ifCond .eq 22, 3) := by decide +kernel
theorem dX9_firstDifferenceSet_22 : decode cX9_firstDifferenceSet 22 = .ok (.iload_n 2, 1) := by decide +kernel
theorem dX9_firstDifferenceSet_23 : decode cX9_firstDifferenceSet 23 = .ok (.iconst 2, 1) := by decide +kernel
theorem dX9_firstDifferenceSet_24 : decode cX9_firstDifferenceSet 24 = .ok (.bipush 6, 2) := by decide +kernel
theorem dX9_firstDifferenceSet_26 : decode cX9_firstDifferenceSet 26 = .ok (.invokestatic 32, 3) := by decide +kernel
theorem dX9_firstDifferenceSet_29 : decode cX9_firstDifferenceSet 29 = .ok (.ifCond .eq 12, 3) := by decide +kernel
theorem dX9_firstDifferenceSet_32 : decode cX9_firstDifferenceSet 32 = .ok (.iload_n 2, 1) := by decide +kernel
theorem dX9_firstDifferenceSet_33 : decode cX9_firstDifferenceSet 33 = .ok (.iload_n 1, 1) := by decide +kernel
theorem dX9_firstDifferenceSet_34 : decode cX9_firstDifferenceSet 34 = .ok (.if_icmp .ge 7, 3) := by decide +kernel
theorem dX9_firstDifferenceSet_37 : decode cX9_firstDifferenceSet 37 = .ok (.iconst 0, 1) := by decide +kernel
theorem dX9_firstDifferenceSet_38 : decode cX9_firstDifferenceSet 38 = .ok (.goto 4, 3) := by decide +kernel
theorem dX9_firstDifferenceSet_41 : decode cX9_firstDifferenceSet 41 = .ok (.iconst 2, 1) := by decide +kernel
theorem dX9_firstDifferenceSet_42 : decode cX9_firstDifferenceSet 42 = .ok (.invokevirtual 39, 3) := by decide +kernel
theorem dX9_firstDifferenceSet_45 : decode cX9_firstDifferenceSet 45 = .ok (.ifCond .eq 5, 3) := by decide +kernel
theorem dX9_firstDifferenceSet_48 : decode cX9_firstDifferenceSet 48 = .ok (.iconst 0, 1) := by decide +kernel
theorem dX9_firstDifferenceSet_49 : decode cX9_firstDifferenceSet 49 = .ok (.ireturn, 1) := by decide +kernel
theorem dX9_firstDifferenceSet_50 : decode cX9_firstDifferenceSet 50 = .ok (.iload_n 2, 1) := by decide +kernel
theorem dX9_firstDifferenceSet_51 : decode cX9_firstDifferenceSet 51 = .ok (.iload_n 2, 1) := by decide +kernel
theorem dX9_firstDifferenceSet_52 : decode cX9_firstDifferenceSet 52 = .ok (.iconst 1, 1) := by decide +kernel
theorem dX9_firstDifferenceSet_53 : decode cX9_firstDifferenceSet 53 = .ok (.isub, 1) := by decide +kernel
theorem dX9_firstDifferenceSet_54 : decode cX9_firstDifferenceSet 54 = .ok (.imul, 1) := by decide +kernel
theorem dX9_firstDifferenceSet_55 : decode cX9_firstDifferenceSet 55 = .ok (.iload_n 1, 1) := by decide +kernel
theorem dX9_firstDifferenceSet_56 : decode cX9_firstDifferenceSet 56 = .ok (.iconst 1, 1) := by decide +kernel
theorem dX9_firstDifferenceSet_57 : decode cX9_firstDifferenceSet 57 = .ok (.isub, 1) := by decide +kernel
theorem dX9_firstDifferenceSet_58 : decode cX9_firstDifferenceSet 58 = .ok (.irem, 1) := by decide +kernel
theorem dX9_firstDifferenceSet_59 : decode cX9_firstDifferenceSet 59 = .ok (.ifCond .ne 7, 3) := by decide +kernel
theorem dX9_firstDifferenceSet_62 : decode cX9_firstDifferenceSet 62 = .ok (.iconst 1, 1) := by decide +kernel
theorem dX9_firstDifferenceSet_63 : decode cX9_firstDifferenceSet 63 = .ok (.goto 4, 3) := by decide +kernel
theorem dX9_firstDifferenceSet_66 : decode cX9_firstDifferenceSet 66 = .ok (.iconst 0, 1) := by decide +kernel
theorem dX9_firstDifferenceSet_67 : decode cX9_firstDifferenceSet 67 = .ok (.istore 4, 2) := by decide +kernel
theorem dX9_firstDifferenceSet_69 : decode cX9_firstDifferenceSet 69 = .ok (.iconst (-1), 1) := by decide +kernel
theorem dX9_firstDifferenceSet_70 : decode cX9_firstDifferenceSet 70 = .ok (.istore 5, 2) := by decide +kernel
theorem dX9_firstDifferenceSet_72 : decode cX9_firstDifferenceSet 72 = .ok (.aload_n 0, 1) := by decide +kernel
theorem dX9_firstDifferenceSet_73 : decode cX9_firstDifferenceSet 73 = .ok (.iload_n 2, 1) := by decide +kernel
theorem dX9_firstDifferenceSet_74 : decode cX9_firstDifferenceSet 74 = .ok (.iconst 1, 1) := by decide +kernel
theorem dX9_firstDifferenceSet_75 : decode cX9_firstDifferenceSet 75 = .ok (.isub, 1) := by decide +kernel
theorem dX9_firstDifferenceSet_76 : decode cX9_firstDifferenceSet 76 = .ok (.iconst 1, 1) := by decide +kernel
theorem dX9_firstDifferenceSet_77 : decode cX9_firstDifferenceSet 77 = .ok (.invokevirtual 149, 3) := by decide +kernel
theorem dX9_firstDifferenceSet_80 : decode cX9_firstDifferenceSet 80 = .ok (.iload 4, 2) := by decide +kernel
theorem dX9_firstDifferenceSet_82 : decode cX9_firstDifferenceSet 82 = .ok (.ifCond .eq 42, 3) := by decide +kernel
theorem dX9_firstDifferenceSet_85 : decode cX9_firstDifferenceSet 85 = .ok (.aload_n 0, 1) := by decide +kernel
theorem dX9_firstDifferenceSet_86 : decode cX9_firstDifferenceSet 86 = .ok (.iload_n 2, 1) := by decide +kernel
theorem dX9_firstDifferenceSet_87 : decode cX9_firstDifferenceSet 87 = .ok (.iconst 1, 1) := by decide +kernel
theorem dX9_firstDifferenceSet_88 : decode cX9_firstDifferenceSet 88 = .ok (.isub, 1) := by decide +kernel
theorem dX9_firstDifferenceSet_89 : decode cX9_firstDifferenceSet 89 = .ok (.iload_n 1, 1) := by decide +kernel
theorem dX9_firstDifferenceSet_90 : decode cX9_firstDifferenceSet 90 = .ok (.invokevirtual 167, 3) := by decide +kernel
theorem dX9_firstDifferenceSet_93 : decode cX9_firstDifferenceSet 93 = .ok (.istore 5, 2) := by decide +kernel
theorem dX9_firstDifferenceSet_95 : decode cX9_firstDifferenceSet 95 = .ok (.iload 5, 2) := by decide +kernel
theorem dX9_firstDifferenceSet_97 : decode cX9_firstDifferenceSet 97 = .ok (.iconst (-1), 1) := by decide +kernel
theorem dX9_firstDifferenceSet_98 : decode cX9_firstDifferenceSet 98 = .ok (.if_icmp .ne 20, 3) := by decide +kernel
theorem dX9_firstDifferenceSet_101 : decode cX9_firstDifferenceSet 101 = .ok (.aload_n 0, 1) := by decide +kernel
theorem dX9_firstDifferenceSet_102 : decode cX9_firstDifferenceSet 102 = .ok (.iload_n 2, 1) := by decide +kernel
theorem dX9_firstDifferenceSet_103 : decode cX9_firstDifferenceSet 103 = .ok (.iconst 1, 1) := by decide +kernel
theorem dX9_firstDifferenceSet_104 : decode cX9_firstDifferenceSet 104 = .ok (.isub, 1) := by decide +kernel
theorem dX9_firstDifferenceSet_105 : decode cX9_firstDifferenceSet 105 = .ok (.iload_n 1, 1) := by decide +kernel
theorem dX9_firstDifferenceSet_106 : decode cX9_firstDifferenceSet 106 = .ok (.iconst 1, 1) := by decide +kernel
theorem dX9_firstDifferenceSet_107 : decode cX9_firstDifferenceSet 107 = .ok (.isub, 1) := by decide +kernel
theorem dX9_firstDifferenceSet_108 : decode cX9_firstDifferenceSet 108 = .ok (.invokevirtual 161, 3) := by decide +kernel
theorem dX9_firstDifferenceSet_111 : decode cX9_firstDifferenceSet 111 = .ok (.ifCond .eq 7, 3) := by decide +kernel
theorem dX9_firstDifferenceSet_114 : decode cX9_firstDifferenceSet 114 = .ok (.iconst 1, 1) := by decide +kernel
theorem dX9_firstDifferenceSet_115 : decode cX9_firstDifferenceSet 115 = .ok (.goto 4, 3) := by decide +kernel
theorem dX9_firstDifferenceSet_118 : decode cX9_firstDifferenceSet 118 = .ok (.iconst 0, 1) := by decide +kernel
theorem dX9_firstDifferenceSet_119 : decode cX9_firstDifferenceSet 119 = .ok (.istore 4, 2) := by decide +kernel
theorem dX9_firstDifferenceSet_121 : decode cX9_firstDifferenceSet 121 = .ok (.goto (-41), 3) := by decide +kernel
theorem dX9_firstDifferenceSet_124 : decode cX9_firstDifferenceSet 124 = .ok (.iload 5, 2) := by decide +kernel
theorem dX9_firstDifferenceSet_126 : decode cX9_firstDifferenceSet 126 = .ok (.iconst (-1), 1) := by decide +kernel
theorem dX9_firstDifferenceSet_127 : decode cX9_firstDifferenceSet 127 = .ok (.if_icmp .ne 5, 3) := by decide +kernel
theorem dX9_firstDifferenceSet_130 : decode cX9_firstDifferenceSet 130 = .ok (.iconst (-1), 1) := by decide +kernel
theorem dX9_firstDifferenceSet_131 : decode cX9_firstDifferenceSet 131 = .ok (.ireturn, 1) := by decide +kernel
theorem dX9_firstDifferenceSet_132 : decode cX9_firstDifferenceSet 132 = .ok (.aload_n 0, 1) := by decide +kernel
theorem dX9_firstDifferenceSet_133 : decode cX9_firstDifferenceSet 133 = .ok (.invokevirtual 67, 3) := by decide +kernel
theorem dX9_firstDifferenceSet_136 : decode cX9_firstDifferenceSet 136 = .ok (.aload_n 0, 1) := by decide +kernel
theorem dX9_firstDifferenceSet_137 : decode cX9_firstDifferenceSet 137 = .ok (.iload_n 2, 1) := by decide +kernel
theorem dX9_firstDifferenceSet_138 : decode cX9_firstDifferenceSet 138 = .ok (.iconst 1, 1) := by decide +kernel
theorem dX9_firstDifferenceSet_139 : decode cX9_firstDifferenceSet 139 = .ok (.isub, 1) := by decide +kernel
theorem dX9_firstDifferenceSet_140 : decode cX9_firstDifferenceSet 140 = .ok (.invokevirtual 158, 3) := by decide +kernel
theorem dX9_firstDifferenceSet_143 : decode cX9_firstDifferenceSet 143 = .ok (.aload_n 0, 1) := by decide +kernel
theorem dX9_firstDifferenceSet_144 : decode cX9_firstDifferenceSet 144 = .ok (.iload_n 3, 1) := by decide +kernel
theorem dX9_firstDifferenceSet_145 : decode cX9_firstDifferenceSet 145 = .ok (.invokevirtual 74, 3) := by decide +kernel
theorem dX9_firstDifferenceSet_148 : decode cX9_firstDifferenceSet 148 = .ok (.pop, 1) := by decide +kernel
theorem dX9_firstDifferenceSet_149 : decode cX9_firstDifferenceSet 149 = .ok (.aload_n 0, 1) := by decide +kernel
theorem dX9_firstDifferenceSet_150 : decode cX9_firstDifferenceSet 150 = .ok (.getfield 7, 3) := by decide +kernel
theorem dX9_firstDifferenceSet_153 : decode cX9_firstDifferenceSet 153 = .ok (.iconst 0, 1) := by decide +kernel
theorem dX9_firstDifferenceSet_154 : decode cX9_firstDifferenceSet 154 = .ok (.iload_n 1, 1) := by decide +kernel
theorem dX9_firstDifferenceSet_155 : decode cX9_firstDifferenceSet 155 = .ok (.iastore, 1) := by decide +kernel
theorem dX9_firstDifferenceSet_156 : decode cX9_firstDifferenceSet 156 = .ok (.iload 5, 2) := by decide +kernel
theorem dX9_firstDifferenceSet_158 : decode cX9_firstDifferenceSet 158 = .ok (.ireturn, 1) := by decide +kernel
theorem dX9_mix_0 : decode cX9_mix 0 = .ok (.aload_n 0, 1) := by decide +kernel
theorem dX9_mix_1 : decode cX9_mix 1 = .ok (.ldc2_w 170, 3) := by decide +kernel
theorem dX9_mix_4 : decode cX9_mix 4 = .ok (.aload_n 0, 1) := by decide +kernel
theorem dX9_mix_5 : decode cX9_mix 5 = .ok (.getfield 172, 3) := by decide +kernel
theorem dX9_mix_8 : decode cX9_mix 8 = .ok (.lmul, 1) := by decide +kernel
theorem dX9_mix_9 : decode cX9_mix 9 = .ok (.iload_n 1, 1) := by decide +kernel
theorem dX9_mix_10 : decode cX9_mix 10 = .ok (.i2l, 1) := by decide +kernel
theorem dX9_mix_11 : decode cX9_mix 11 = .ok (.ladd, 1) := by decide +kernel
theorem dX9_mix_12 : decode cX9_mix 12 = .ok (.putfield 172, 3) := by decide +kernel
theorem dX9_mix_15 : decode cX9_mix 15 = .ok (.return_, 1) := by decide +kernel
set_option maxRecDepth 20000 in
theorem ggX9_digest_X9_mix : GoodIn wsX9_digest wsX9_mix := goodIn_r _ [10, 11, 3, 80, 81, 82, 83, 84, 85, 86, 87, 88, 89] (by decide +kernel) (by decide +kernel)
set_option maxRecDepth 20000 in
theorem gX9_digest_X9_mix : GoodIn wsX9_digest (wsV RX9 178 RX9 yX9_mix wsX9_mix) := goodIn_app (goodIn_of _ (by decide +kernel)) ggX9_digest_X9_mix
set_option maxRecDepth 20000 in
theorem ggX9_digest_X9_modulus : GoodIn wsX9_digest wsX9_modulus := goodIn_r _ [15, 5, 80, 81, 82, 83, 84, 85, 86, 87, 88, 89] (by decide +kernel) (by decide +kernel)
set_option maxRecDepth 20000 in
theorem gX9_digest_X9_modulus : GoodIn wsX9_digest (wsV RX9 98 RX9 yX9_modulus wsX9_modulus) := goodIn_app (goodIn_of _ (by decide +kernel)) ggX9_digest_X9_modulus
set_option maxRecDepth 20000 in
theorem ggX9_digest_X9_many : GoodIn wsX9_digest wsX9_many := goodIn_r _ [19, 5, 80, 81, 82, 83, 84, 85, 86, 87, 88, 89] (by decide +kernel) (by decide +kernel)
set_option maxRecDepth 20000 in
theorem gX9_digest_X9_many : GoodIn wsX9_digest (wsV RX9 46 RX9 yX9_many wsX9_many) := goodIn_app (goodIn_of _ (by decide +kernel)) ggX9_digest_X9_many
set_option maxRecDepth 20000 in
theorem ggX9_digest_X9_areOnce : GoodIn wsX9_digest wsX9_areOnce := goodIn_r _ [23, 24, 25, 26, 27, 9, 28, 29, 30, 31, 32, 16, 17, 18, 19, 5, 33, 34, 35, 36, 80, 81, 82, 83, 84, 85, 86, 87, 88, 89] (by decide +kernel) (by decide +kernel)
set_option maxRecDepth 20000 in
theorem gX9_digest_X9_areOnce : GoodIn wsX9_digest (wsV RX9 89 RX9 yX9_areOnce wsX9_areOnce) := goodIn_app (goodIn_of _ (by decide +kernel)) ggX9_digest_X9_areOnce
set_option maxRecDepth 20000 in
theorem ggX9_digest_X9_complete : GoodIn wsX9_digest wsX9_complete := goodIn_r _ [40, 24, 25, 26, 27, 9, 28, 29, 30, 31, 32, 16, 17, 18, 19, 5, 33, 34, 35, 36, 80, 81, 82, 83, 84, 85, 86, 87, 88, 89] (by decide +kernel) (by decide +kernel)
set_option maxRecDepth 20000 in
theorem gX9_digest_X9_complete : GoodIn wsX9_digest (wsV RX9 92 RX9 yX9_complete wsX9_complete) := goodIn_app (goodIn_of _ (by decide +kernel)) ggX9_digest_X9_complete
set_option maxRecDepth 20000 in
theorem ggX9_digest_X9_unlike : GoodIn wsX9_digest wsX9_unlike := goodIn_r _ [44, 24, 25, 26, 27, 9, 28, 29, 30, 31, 32, 16, 17, 18, 19, 5, 33, 34, 35, 36, 80, 81, 82, 83, 84, 85, 86, 87, 88, 89] (by decide +kernel) (by decide +kernel)
set_option maxRecDepth 20000 in
theorem gX9_digest_X9_unlike : GoodIn wsX9_digest (wsV RX9 95 RX9 yX9_unlike wsX9_unlike) := goodIn_app (goodIn_of _ (by decide +kernel)) ggX9_digest_X9_unlike
set_option maxRecDepth 20000 in
theorem ggX9_digest_X9_isLow : GoodIn wsX9_digest wsX9_isLow := goodIn_r _ [48, 16, 17, 18, 9, 19, 5, 33, 34, 35, 36, 12, 13, 14, 15, 80, 81, 82, 83, 84, 85, 86, 87, 88, 89] (by decide +kernel) (by decide +kernel)
set_option maxRecDepth 20000 in
theorem gX9_digest_X9_isLow : GoodIn wsX9_digest (wsV RX9 105 RX9 yX9_isLow wsX9_isLow) := goodIn_app (goodIn_of _ (by decide +kernel)) ggX9_digest_X9_isLow
set_option maxRecDepth 20000 in
theorem ggX9_digest_X9_indexOf : GoodIn wsX9_digest wsX9_indexOf := goodIn_r _ [52, 53, 54, 55, 9, 56, 16, 17, 18, 19, 5, 33, 34, 35, 36, 57, 58, 59, 60, 12, 13, 14, 15, 61, 62, 63, 64, 80, 81, 82, 83, 84, 85, 86, 87, 88, 89] (by decide +kernel) (by decide +kernel)
set_option maxRecDepth 20000 in
theorem gX9_digest_X9_indexOf : GoodIn wsX9_digest (wsV RX9 114 RX9 yX9_indexOf wsX9_indexOf) := goodIn_app (goodIn_of _ (by decide +kernel)) ggX9_digest_X9_indexOf
set_option maxRecDepth 20000 in
theorem ggX9_digest_X9_multipliersOf : GoodIn wsX9_digest wsX9_multipliersOf := goodIn_r _ [68, 12, 13, 14, 9, 15, 5, 69, 70, 71, 72, 73, 74, 75, 16, 17, 18, 19, 33, 34, 35, 36, 57, 58, 59, 60, 76, 77, 78, 79, 61, 62, 63, 64, 80, 81, 82, 83, 84, 85, 86, 87, 88, 89] (by decide +kernel) (by decide +kernel)
set_option maxRecDepth 20000 in
theorem gX9_digest_X9_multipliersOf : GoodIn wsX9_digest (wsV RX9 127 RX9 yX9_multipliersOf wsX9_multipliersOf) := goodIn_app (goodIn_of _ (by decide +kernel)) ggX9_digest_X9_multipliersOf
theorem dX9_digest_0 : decode cX9_digest 0 = .ok (.aload_n 0, 1) := by decide +kernel
theorem dX9_digest_1 : decode cX9_digest 1 = .ok (.iconst 0, 1) := by decide +kernel
theorem dX9_digest_2 : decode cX9_digest 2 = .ok (.putfield 28, 3) := by decide +kernel
theorem dX9_digest_5 : decode cX9_digest 5 = .ok (.aload_n 0, 1) := by decide +kernel
theorem dX9_digest_6 : decode cX9_digest 6 = .ok (.ldc2_w 176, 3) := by decide +kernel
theorem dX9_digest_9 : decode cX9_digest 9 = .ok (.putfield 172, 3) := by decide +kernel
theorem dX9_digest_12 : decode cX9_digest 12 = .ok (.aload_n 0, 1) := by decide +kernel
theorem dX9_digest_13 : decode cX9_digest 13 = .ok (.aload_n 0, 1) := by decide +kernel
theorem dX9_digest_14 : decode cX9_digest 14 = .ok (.getfield 36, 3) := by decide +kernel
theorem dX9_digest_17 : decode cX9_digest 17 = .ok (.invokevirtual 178, 3) := by decide +kernel
theorem dX9_digest_20 : decode cX9_digest 20 = .ok (.aload_n 0, 1) := by decide +kernel
theorem dX9_digest_21 : decode cX9_digest 21 = .ok (.aload_n 0, 1) := by decide +kernel
theorem dX9_digest_22 : decode cX9_digest 22 = .ok (.invokevirtual 98, 3) := by decide +kernel
theorem dX9_digest_25 : decode cX9_digest 25 = .ok (.invokevirtual 178, 3) := by decide +kernel
theorem dX9_digest_28 : decode cX9_digest 28 = .ok (.iconst 0, 1) := by decide +kernel
theorem dX9_digest_29 : decode cX9_digest 29 = .ok (.istore_n 1, 1) := by decide +kernel
theorem dX9_digest_30 : decode cX9_digest 30 = .ok (.iload_n 1, 1) := by decide +kernel
theorem dX9_digest_31 : decode cX9_digest 31 = .ok (.iconst 4, 1) := by decide +kernel
theorem dX9_digest_32 : decode cX9_digest 32 = .ok (.if_icmp .ge 106, 3) := by decide +kernel
theorem dX9_digest_35 : decode cX9_digest 35 = .ok (.iconst 0, 1) := by decide +kernel
theorem dX9_digest_36 : decode cX9_digest 36 = .ok (.istore_n 2, 1) := by decide +kernel
theorem dX9_digest_37 : decode cX9_digest 37 = .ok (.iload_n 2, 1) := by decide +kernel
theorem dX9_digest_38 : decode cX9_digest 38 = .ok (.aload_n 0, 1) := by decide +kernel
theorem dX9_digest_39 : decode cX9_digest 39 = .ok (.iload_n 1, 1) := by decide +kernel
theorem dX9_digest_40 : decode cX9_digest 40 = .ok (.invokevirtual 46, 3) := by decide +kernel
theorem dX9_digest_43 : decode cX9_digest 43 = .ok (.if_icmp .gt 26, 3) := by decide +kernel
theorem dX9_digest_46 : decode cX9_digest 46 = .ok (.aload_n 0, 1) := by decide +kernel
theorem dX9_digest_47 : decode cX9_digest 47 = .ok (.aload_n 0, 1) := by decide +kernel
theorem dX9_digest_48 : decode cX9_digest 48 = .ok (.getfield 7, 3) := by decide +kernel
theorem dX9_digest_51 : decode cX9_digest 51 = .ok (.iconst 1, 1) := by decide +kernel
theorem dX9_digest_52 : decode cX9_digest 52 = .ok (.bipush 25, 2) := by decide +kernel
theorem dX9_digest_54 : decode cX9_digest 54 = .ok (.iload_n 1, 1) := by decide +kernel
theorem dX9_digest_55 : decode cX9_digest 55 = .ok (.imul, 1) := by decide +kernel
theorem dX9_digest_56 : decode cX9_digest 56 = .ok (.iadd, 1) := by decide +kernel
theorem dX9_digest_57 : decode cX9_digest 57 = .ok (.iload_n 2, 1) := by decide +kernel
theorem dX9_digest_58 : decode cX9_digest 58 = .ok (.iadd, 1) := by decide +kernel
theorem dX9_digest_59 : decode cX9_digest 59 = .ok (.iaload, 1) := by decide +kernel
theorem dX9_digest_60 : decode cX9_digest 60 = .ok (.invokevirtual 178, 3) := by decide +kernel
theorem dX9_digest_63 : decode cX9_digest 63 = .ok (.iinc 2 1, 3) := by decide +kernel
theorem dX9_digest_66 : decode cX9_digest 66 = .ok (.goto (-29), 3) := by decide +kernel
theorem dX9_digest_69 : decode cX9_digest 69 = .ok (.aload_n 0, 1) := by decide +kernel
theorem dX9_digest_70 : decode cX9_digest 70 = .ok (.aload_n 0, 1) := by decide +kernel
theorem dX9_digest_71 : decode cX9_digest 71 = .ok (.iconst 1, 1) := by decide +kernel
theorem dX9_digest_72 : decode cX9_digest 72 = .ok (.iload_n 1, 1) := by decide +kernel
theorem dX9_digest_73 : decode cX9_digest 73 = .ok (.ishl, 1) := by decide +kernel
theorem dX9_digest_74 : decode cX9_digest 74 = .ok (.invokevirtual 89, 3) := by decide +kernel
theorem dX9_digest_77 : decode cX9_digest 77 = .ok (.ifCond .eq 7, 3) := by decide +kernel
theorem dX9_digest_80 : decode cX9_digest 80 = .ok (.iconst 1, 1) := by decide +kernel
theorem dX9_digest_81 : decode cX9_digest 81 = .ok (.goto 4, 3) := by decide +kernel
theorem dX9_digest_84 : decode cX9_digest 84 = .ok (.iconst 0, 1) := by decide +kernel
theorem dX9_digest_85 : decode cX9_digest 85 = .ok (.invokevirtual 178, 3) := by decide +kernel
theorem dX9_digest_88 : decode cX9_digest 88 = .ok (.aload_n 0, 1) := by decide +kernel
theorem dX9_digest_89 : decode cX9_digest 89 = .ok (.aload_n 0, 1) := by decide +kernel
theorem dX9_digest_90 : decode cX9_digest 90 = .ok (.iload_n 1, 1) := by decide +kernel
theorem dX9_digest_91 : decode cX9_digest 91 = .ok (.invokevirtual 92, 3) := by decide +kernel
theorem dX9_digest_94 : decode cX9_digest 94 = .ok (.invokevirtual 178, 3) := by decide +kernel
theorem dX9_digest_97 : decode cX9_digest 97 = .ok (.aload_n 0, 1) := by decide +kernel
theorem dX9_digest_98 : decode cX9_digest 98 = .ok (.aload_n 0, 1) := by decide +kernel
theorem dX9_digest_99 : decode cX9_digest 99 = .ok (.iload_n 1, 1) := by decide +kernel
theorem dX9_digest_100 : decode cX9_digest 100 = .ok (.invokevirtual 95, 3) := by decide +kernel
theorem dX9_digest_103 : decode cX9_digest 103 = .ok (.invokevirtual 178, 3) := by decide +kernel
theorem dX9_digest_106 : decode cX9_digest 106 = .ok (.aload_n 0, 1) := by decide +kernel
theorem dX9_digest_107 : decode cX9_digest 107 = .ok (.iload_n 1, 1) := by decide +kernel
theorem dX9_digest_108 : decode cX9_digest 108 = .ok (.invokevirtual 105, 3) := by decide +kernel
theorem dX9_digest_111 : decode cX9_digest 111 = .ok (.ifCond .eq 21, 3) := by decide +kernel
theorem dX9_digest_114 : decode cX9_digest 114 = .ok (.aload_n 0, 1) := by decide +kernel
theorem dX9_digest_115 : decode cX9_digest 115 = .ok (.aload_n 0, 1) := by decide +kernel
theorem dX9_digest_116 : decode cX9_digest 116 = .ok (.iload_n 1, 1) := by decide +kernel
theorem dX9_digest_117 : decode cX9_digest 117 = .ok (.invokevirtual 114, 3) := by decide +kernel
theorem dX9_digest_120 : decode cX9_digest 120 = .ok (.invokevirtual 178, 3) := by decide +kernel
theorem dX9_digest_123 : decode cX9_digest 123 = .ok (.aload_n 0, 1) := by decide +kernel
theorem dX9_digest_124 : decode cX9_digest 124 = .ok (.aload_n 0, 1) := by decide +kernel
theorem dX9_digest_125 : decode cX9_digest 125 = .ok (.iload_n 1, 1) := by decide +kernel
theorem dX9_digest_126 : decode cX9_digest 126 = .ok (.invokevirtual 127, 3) := by decide +kernel
theorem dX9_digest_129 : decode cX9_digest 129 = .ok (.invokevirtual 178, 3) := by decide +kernel
theorem dX9_digest_132 : decode cX9_digest 132 = .ok (.iinc 1 1, 3) := by decide +kernel
theorem dX9_digest_135 : decode cX9_digest 135 = .ok (.goto (-105), 3) := by decide +kernel
theorem dX9_digest_138 : decode cX9_digest 138 = .ok (.iconst 0, 1) := by decide +kernel
theorem dX9_digest_139 : decode cX9_digest 139 = .ok (.istore_n 1, 1) := by decide +kernel
theorem dX9_digest_140 : decode cX9_digest 140 = .ok (.iload_n 1, 1) := by decide +kernel
theorem dX9_digest_141 : decode cX9_digest 141 = .ok (.bipush 16, 2) := by decide +kernel
theorem dX9_digest_143 : decode cX9_digest 143 = .ok (.if_icmp .ge 26, 3) := by decide +kernel
theorem dX9_digest_146 : decode cX9_digest 146 = .ok (.aload_n 0, 1) := by decide +kernel
theorem dX9_digest_147 : decode cX9_digest 147 = .ok (.aload_n 0, 1) := by decide +kernel
theorem dX9_digest_148 : decode cX9_digest 148 = .ok (.iload_n 1, 1) := by decide +kernel
theorem dX9_digest_149 : decode cX9_digest 149 = .ok (.invokevirtual 89, 3) := by decide +kernel
theorem dX9_digest_152 : decode cX9_digest 152 = .ok (.ifCond .eq 7, 3) := by decide +kernel
theorem dX9_digest_155 : decode cX9_digest 155 = .ok (.iconst 1, 1) := by decide +kernel
theorem dX9_digest_156 : decode cX9_digest 156 = .ok (.goto 4, 3) := by decide +kernel
theorem dX9_digest_159 : decode cX9_digest 159 = .ok (.iconst 0, 1) := by decide +kernel
theorem dX9_digest_160 : decode cX9_digest 160 = .ok (.invokevirtual 178, 3) := by decide +kernel
theorem dX9_digest_163 : decode cX9_digest 163 = .ok (.iinc 1 1, 3) := by decide +kernel
theorem dX9_digest_166 : decode cX9_digest 166 = .ok (.goto (-26), 3) := by decide +kernel
theorem dX9_digest_169 : decode cX9_digest 169 = .ok (.aload_n 0, 1) := by decide +kernel
theorem dX9_digest_170 : decode cX9_digest 170 = .ok (.getfield 172, 3) := by decide +kernel
theorem dX9_digest_173 : decode cX9_digest 173 = .ok (.lreturn, 1) := by decide +kernel
theorem dJ6_numberOfTrailingZeros_0f7a4_0 : decode cJ6_numberOfTrailingZeros_0f7a4 0 = .ok (.iload_n 0, 1) := by decide +kernel
theorem dJ6_numberOfTrailingZeros_0f7a4_1 : decode cJ6_numberOfTrailingZeros_0f7a4 1 = .ok (.iconst (-1), 1) := by decide +kernel
theorem dJ6_numberOfTrailingZeros_0f7a4_2 : decode cJ6_numberOfTrailingZeros_0f7a4 2 = .ok (.ixor, 1) := by decide +kernel
theorem dJ6_numberOfTrailingZeros_0f7a4_3 : decode cJ6_numberOfTrailingZeros_0f7a4 3 = .ok (.iload_n 0, 1) := by decide +kernel
theorem dJ6_numberOfTrailingZeros_0f7a4_4 : decode cJ6_numberOfTrailingZeros_0f7a4 4 = .ok (.iconst 1, 1) := by decide +kernel
theorem dJ6_numberOfTrailingZeros_0f7a4_5 : decode cJ6_numberOfTrailingZeros_0f7a4 5 = .ok (.isub, 1) := by decide +kernel
theorem dJ6_numberOfTrailingZeros_0f7a4_6 : decode cJ6_numberOfTrailingZeros_0f7a4 6 = .ok (.iand, 1) := by decide +kernel
theorem dJ6_numberOfTrailingZeros_0f7a4_7 : decode cJ6_numberOfTrailingZeros_0f7a4 7 = .ok (.istore_n 0, 1) := by decide +kernel
theorem dJ6_numberOfTrailingZeros_0f7a4_8 : decode cJ6_numberOfTrailingZeros_0f7a4 8 = .ok (.iload_n 0, 1) := by decide +kernel
theorem dJ6_numberOfTrailingZeros_0f7a4_9 : decode cJ6_numberOfTrailingZeros_0f7a4 9 = .ok (.ifCond .gt 8, 3) := by decide +kernel
theorem dJ6_numberOfTrailingZeros_0f7a4_12 : decode cJ6_numberOfTrailingZeros_0f7a4 12 = .ok (.iload_n 0, 1) := by decide +kernel
theorem dJ6_numberOfTrailingZeros_0f7a4_13 : decode cJ6_numberOfTrailingZeros_0f7a4 13 = .ok (.bipush 32, 2) := by decide +kernel
theorem dJ6_numberOfTrailingZeros_0f7a4_15 : decode cJ6_numberOfTrailingZeros_0f7a4 15 = .ok (.iand, 1) := by decide +kernel
theorem dJ6_numberOfTrailingZeros_0f7a4_16 : decode cJ6_numberOfTrailingZeros_0f7a4 16 = .ok (.ireturn, 1) := by decide +kernel
theorem dJ6_numberOfTrailingZeros_0f7a4_17 : decode cJ6_numberOfTrailingZeros_0f7a4 17 = .ok (.iconst 1, 1) := by decide +kernel
theorem dJ6_numberOfTrailingZeros_0f7a4_18 : decode cJ6_numberOfTrailingZeros_0f7a4 18 = .ok (.istore_n 1, 1) := by decide +kernel
theorem dJ6_numberOfTrailingZeros_0f7a4_19 : decode cJ6_numberOfTrailingZeros_0f7a4 19 = .ok (.iload_n 0, 1) := by decide +kernel
theorem dJ6_numberOfTrailingZeros_0f7a4_20 : decode cJ6_numberOfTrailingZeros_0f7a4 20 = .ok (.ldc_w 264, 3) := by decide +kernel
theorem dJ6_numberOfTrailingZeros_0f7a4_23 : decode cJ6_numberOfTrailingZeros_0f7a4 23 = .ok (.if_icmp .le 11, 3) := by decide +kernel
theorem dJ6_numberOfTrailingZeros_0f7a4_26 : decode cJ6_numberOfTrailingZeros_0f7a4 26 = .ok (.iinc 1 16, 3) := by decide +kernel
theorem dJ6_numberOfTrailingZeros_0f7a4_29 : decode cJ6_numberOfTrailingZeros_0f7a4 29 = .ok (.iload_n 0, 1) := by decide +kernel
theorem dJ6_numberOfTrailingZeros_0f7a4_30 : decode cJ6_numberOfTrailingZeros_0f7a4 30 = .ok (.bipush 16, 2) := by decide +kernel
theorem dJ6_numberOfTrailingZeros_0f7a4_32 : decode cJ6_numberOfTrailingZeros_0f7a4 32 = .ok (.iushr, 1) := by decide +kernel
theorem dJ6_numberOfTrailingZeros_0f7a4_33 : decode cJ6_numberOfTrailingZeros_0f7a4 33 = .ok (.istore_n 0, 1) := by decide +kernel
theorem dJ6_numberOfTrailingZeros_0f7a4_34 : decode cJ6_numberOfTrailingZeros_0f7a4 34 = .ok (.iload_n 0, 1) := by decide +kernel
theorem dJ6_numberOfTrailingZeros_0f7a4_35 : decode cJ6_numberOfTrailingZeros_0f7a4 35 = .ok (.sipush 256, 3) := by decide +kernel
theorem dJ6_numberOfTrailingZeros_0f7a4_38 : decode cJ6_numberOfTrailingZeros_0f7a4 38 = .ok (.if_icmp .le 11, 3) := by decide +kernel
theorem dJ6_numberOfTrailingZeros_0f7a4_41 : decode cJ6_numberOfTrailingZeros_0f7a4 41 = .ok (.iinc 1 8, 3) := by decide +kernel
theorem dJ6_numberOfTrailingZeros_0f7a4_44 : decode cJ6_numberOfTrailingZeros_0f7a4 44 = .ok (.iload_n 0, 1) := by decide +kernel
theorem dJ6_numberOfTrailingZeros_0f7a4_45 : decode cJ6_numberOfTrailingZeros_0f7a4 45 = .ok (.bipush 8, 2) := by decide +kernel
theorem dJ6_numberOfTrailingZeros_0f7a4_47 : decode cJ6_numberOfTrailingZeros_0f7a4 47 = .ok (.iushr, 1) := by decide +kernel
theorem dJ6_numberOfTrailingZeros_0f7a4_48 : decode cJ6_numberOfTrailingZeros_0f7a4 48 = .ok (.istore_n 0, 1) := by decide +kernel
theorem dJ6_numberOfTrailingZeros_0f7a4_49 : decode cJ6_numberOfTrailingZeros_0f7a4 49 = .ok (.iload_n 0, 1) := by decide +kernel
theorem dJ6_numberOfTrailingZeros_0f7a4_50 : decode cJ6_numberOfTrailingZeros_0f7a4 50 = .ok (.bipush 16, 2) := by decide +kernel
theorem dJ6_numberOfTrailingZeros_0f7a4_52 : decode cJ6_numberOfTrailingZeros_0f7a4 52 = .ok (.if_icmp .le 10, 3) := by decide +kernel
theorem dJ6_numberOfTrailingZeros_0f7a4_55 : decode cJ6_numberOfTrailingZeros_0f7a4 55 = .ok (.iinc 1 4, 3) := by decide +kernel
theorem dJ6_numberOfTrailingZeros_0f7a4_58 : decode cJ6_numberOfTrailingZeros_0f7a4 58 = .ok (.iload_n 0, 1) := by decide +kernel
theorem dJ6_numberOfTrailingZeros_0f7a4_59 : decode cJ6_numberOfTrailingZeros_0f7a4 59 = .ok (.iconst 4, 1) := by decide +kernel
theorem dJ6_numberOfTrailingZeros_0f7a4_60 : decode cJ6_numberOfTrailingZeros_0f7a4 60 = .ok (.iushr, 1) := by decide +kernel
theorem dJ6_numberOfTrailingZeros_0f7a4_61 : decode cJ6_numberOfTrailingZeros_0f7a4 61 = .ok (.istore_n 0, 1) := by decide +kernel
theorem dJ6_numberOfTrailingZeros_0f7a4_62 : decode cJ6_numberOfTrailingZeros_0f7a4 62 = .ok (.iload_n 0, 1) := by decide +kernel
theorem dJ6_numberOfTrailingZeros_0f7a4_63 : decode cJ6_numberOfTrailingZeros_0f7a4 63 = .ok (.iconst 4, 1) := by decide +kernel
theorem dJ6_numberOfTrailingZeros_0f7a4_64 : decode cJ6_numberOfTrailingZeros_0f7a4 64 = .ok (.if_icmp .le 10, 3) := by decide +kernel
theorem dJ6_numberOfTrailingZeros_0f7a4_67 : decode cJ6_numberOfTrailingZeros_0f7a4 67 = .ok (.iinc 1 2, 3) := by decide +kernel
theorem dJ6_numberOfTrailingZeros_0f7a4_70 : decode cJ6_numberOfTrailingZeros_0f7a4 70 = .ok (.iload_n 0, 1) := by decide +kernel
theorem dJ6_numberOfTrailingZeros_0f7a4_71 : decode cJ6_numberOfTrailingZeros_0f7a4 71 = .ok (.iconst 2, 1) := by decide +kernel
theorem dJ6_numberOfTrailingZeros_0f7a4_72 : decode cJ6_numberOfTrailingZeros_0f7a4 72 = .ok (.iushr, 1) := by decide +kernel
theorem dJ6_numberOfTrailingZeros_0f7a4_73 : decode cJ6_numberOfTrailingZeros_0f7a4 73 = .ok (.istore_n 0, 1) := by decide +kernel
theorem dJ6_numberOfTrailingZeros_0f7a4_74 : decode cJ6_numberOfTrailingZeros_0f7a4 74 = .ok (.iload_n 1, 1) := by decide +kernel
theorem dJ6_numberOfTrailingZeros_0f7a4_75 : decode cJ6_numberOfTrailingZeros_0f7a4 75 = .ok (.iload_n 0, 1) := by decide +kernel
theorem dJ6_numberOfTrailingZeros_0f7a4_76 : decode cJ6_numberOfTrailingZeros_0f7a4 76 = .ok (.iconst 1, 1) := by decide +kernel
theorem dJ6_numberOfTrailingZeros_0f7a4_77 : decode cJ6_numberOfTrailingZeros_0f7a4 77 = .ok (.iushr, 1) := by decide +kernel
theorem dJ6_numberOfTrailingZeros_0f7a4_78 : decode cJ6_numberOfTrailingZeros_0f7a4 78 = .ok (.iadd, 1) := by decide +kernel
theorem dJ6_numberOfTrailingZeros_0f7a4_79 : decode cJ6_numberOfTrailingZeros_0f7a4 79 = .ok (.ireturn, 1) := by decide +kernel
set_option maxRecDepth 20000 in
theorem ggJ13_numberOfTrailingZeros_95d88_J6_numberOfTrailingZeros_0f7a4 : GoodIn wsJ13_numberOfTrailingZeros_95d88 wsJ6_numberOfTrailingZeros_0f7a4 := goodIn_r _ [4, 5] (by decide +kernel) (by decide +kernel)
set_option maxRecDepth 20000 in
theorem gJ13_numberOfTrailingZeros_95d88_J6_numberOfTrailingZeros_0f7a4 : GoodIn wsJ13_numberOfTrailingZeros_95d88 (va_wsS RJ13 311 yJ6_numberOfTrailingZeros_0f7a4 wsJ6_numberOfTrailingZeros_0f7a4) := goodIn_app (goodIn_of _ (by decide +kernel)) ggJ13_numberOfTrailingZeros_95d88_J6_numberOfTrailingZeros_0f7a4
theorem dJ13_numberOfTrailingZeros_95d88_0 : decode cJ13_numberOfTrailingZeros_95d88 0 = .ok (.lload_n 0, 1) := by decide +kernel
theorem dJ13_numberOfTrailingZeros_95d88_1 : decode cJ13_numberOfTrailingZeros_95d88 1 = .ok (.l2i, 1) := by decide +kernel
theorem dJ13_numberOfTrailingZeros_95d88_2 : decode cJ13_numberOfTrailingZeros_95d88 2 = .ok (.istore_n 2, 1) := by decide +kernel
theorem dJ13_numberOfTrailingZeros_95d88_3 : decode cJ13_numberOfTrailingZeros_95d88 3 = .ok (.iload_n 2, 1) := by decide +kernel
theorem dJ13_numberOfTrailingZeros_95d88_4 : decode cJ13_numberOfTrailingZeros_95d88 4 = .ok (.ifCond .ne 17, 3) := by decide +kernel
theorem dJ13_numberOfTrailingZeros_95d88_7 : decode cJ13_numberOfTrailingZeros_95d88 7 = .ok (.bipush 32, 2) := by decide +kernel
theorem dJ13_numberOfTrailingZeros_95d88_9 : decode cJ13_numberOfTrailingZeros_95d88 9 = .ok (.lload_n 0, 1) := by decide +kernel
theorem dJ13_numberOfTrailingZeros_95d88_10 : decode cJ13_numberOfTrailingZeros_95d88 10 = .ok (.bipush 32, 2) := by decide +kernel
theorem dJ13_numberOfTrailingZeros_95d88_12 : decode cJ13_numberOfTrailingZeros_95d88 12 = .ok (.lushr, 1) := by decide +kernel
theorem dJ13_numberOfTrailingZeros_95d88_13 : decode cJ13_numberOfTrailingZeros_95d88 13 = .ok (.l2i, 1) := by decide +kernel
theorem dJ13_numberOfTrailingZeros_95d88_14 : decode cJ13_numberOfTrailingZeros_95d88 14 = .ok (.invokestatic 311, 3) := by decide +kernel
theorem dJ13_numberOfTrailingZeros_95d88_17 : decode cJ13_numberOfTrailingZeros_95d88 17 = .ok (.iadd, 1) := by decide +kernel
theorem dJ13_numberOfTrailingZeros_95d88_18 : decode cJ13_numberOfTrailingZeros_95d88 18 = .ok (.goto 7, 3) := by decide +kernel
theorem dJ13_numberOfTrailingZeros_95d88_21 : decode cJ13_numberOfTrailingZeros_95d88 21 = .ok (.iload_n 2, 1) := by decide +kernel
theorem dJ13_numberOfTrailingZeros_95d88_22 : decode cJ13_numberOfTrailingZeros_95d88 22 = .ok (.invokestatic 311, 3) := by decide +kernel
theorem dJ13_numberOfTrailingZeros_95d88_25 : decode cJ13_numberOfTrailingZeros_95d88 25 = .ok (.ireturn, 1) := by decide +kernel
theorem dJ13_bitCount_95d88_0 : decode cJ13_bitCount_95d88 0 = .ok (.lload_n 0, 1) := by decide +kernel
theorem dJ13_bitCount_95d88_1 : decode cJ13_bitCount_95d88 1 = .ok (.lload_n 0, 1) := by decide +kernel
theorem dJ13_bitCount_95d88_2 : decode cJ13_bitCount_95d88 2 = .ok (.iconst 1, 1) := by decide +kernel
theorem dJ13_bitCount_95d88_3 : decode cJ13_bitCount_95d88 3 = .ok (.lushr, 1) := by decide +kernel
theorem dJ13_bitCount_95d88_4 : decode cJ13_bitCount_95d88 4 = .ok (.ldc2_w 314, 3) := by decide +kernel
theorem dJ13_bitCount_95d88_7 : decode cJ13_bitCount_95d88 7 = .ok (.land, 1) := by decide +kernel
theorem dJ13_bitCount_95d88_8 : decode cJ13_bitCount_95d88 8 = .ok (.lsub, 1) := by decide +kernel
theorem dJ13_bitCount_95d88_9 : decode cJ13_bitCount_95d88 9 = .ok (.lstore_n 0, 1) := by decide +kernel
theorem dJ13_bitCount_95d88_10 : decode cJ13_bitCount_95d88 10 = .ok (.lload_n 0, 1) := by decide +kernel
theorem dJ13_bitCount_95d88_11 : decode cJ13_bitCount_95d88 11 = .ok (.ldc2_w 316, 3) := by decide +kernel
theorem dJ13_bitCount_95d88_14 : decode cJ13_bitCount_95d88 14 = .ok (.land, 1) := by decide +kernel
theorem dJ13_bitCount_95d88_15 : decode cJ13_bitCount_95d88 15 = .ok (.lload_n 0, 1) := by decide +kernel
theorem dJ13_bitCount_95d88_16 : decode cJ13_bitCount_95d88 16 = .ok (.iconst 2, 1) := by decide +kernel
theorem dJ13_bitCount_95d88_17 : decode cJ13_bitCount_95d88 17 = .ok (.lushr, 1) := by decide +kernel
theorem dJ13_bitCount_95d88_18 : decode cJ13_bitCount_95d88 18 = .ok (.ldc2_w 316, 3) := by decide +kernel
theorem dJ13_bitCount_95d88_21 : decode cJ13_bitCount_95d88 21 = .ok (.land, 1) := by decide +kernel
theorem dJ13_bitCount_95d88_22 : decode cJ13_bitCount_95d88 22 = .ok (.ladd, 1) := by decide +kernel
theorem dJ13_bitCount_95d88_23 : decode cJ13_bitCount_95d88 23 = .ok (.lstore_n 0, 1) := by decide +kernel
theorem dJ13_bitCount_95d88_24 : decode cJ13_bitCount_95d88 24 = .ok (.lload_n 0, 1) := by decide +kernel
theorem dJ13_bitCount_95d88_25 : decode cJ13_bitCount_95d88 25 = .ok (.lload_n 0, 1) := by decide +kernel
theorem dJ13_bitCount_95d88_26 : decode cJ13_bitCount_95d88 26 = .ok (.iconst 4, 1) := by decide +kernel
theorem dJ13_bitCount_95d88_27 : decode cJ13_bitCount_95d88 27 = .ok (.lushr, 1) := by decide +kernel
theorem dJ13_bitCount_95d88_28 : decode cJ13_bitCount_95d88 28 = .ok (.ladd, 1) := by decide +kernel
theorem dJ13_bitCount_95d88_29 : decode cJ13_bitCount_95d88 29 = .ok (.ldc2_w 318, 3) := by decide +kernel
theorem dJ13_bitCount_95d88_32 : decode cJ13_bitCount_95d88 32 = .ok (.land, 1) := by decide +kernel
theorem dJ13_bitCount_95d88_33 : decode cJ13_bitCount_95d88 33 = .ok (.lstore_n 0, 1) := by decide +kernel
theorem dJ13_bitCount_95d88_34 : decode cJ13_bitCount_95d88 34 = .ok (.lload_n 0, 1) := by decide +kernel
theorem dJ13_bitCount_95d88_35 : decode cJ13_bitCount_95d88 35 = .ok (.lload_n 0, 1) := by decide +kernel
theorem dJ13_bitCount_95d88_36 : decode cJ13_bitCount_95d88 36 = .ok (.bipush 8, 2) := by decide +kernel
theorem dJ13_bitCount_95d88_38 : decode cJ13_bitCount_95d88 38 = .ok (.lushr, 1) := by decide +kernel
theorem dJ13_bitCount_95d88_39 : decode cJ13_bitCount_95d88 39 = .ok (.ladd, 1) := by decide +kernel
theorem dJ13_bitCount_95d88_40 : decode cJ13_bitCount_95d88 40 = .ok (.lstore_n 0, 1) := by decide +kernel
theorem dJ13_bitCount_95d88_41 : decode cJ13_bitCount_95d88 41 = .ok (.lload_n 0, 1) := by decide +kernel
theorem dJ13_bitCount_95d88_42 : decode cJ13_bitCount_95d88 42 = .ok (.lload_n 0, 1) := by decide +kernel
theorem dJ13_bitCount_95d88_43 : decode cJ13_bitCount_95d88 43 = .ok (.bipush 16, 2) := by decide +kernel
theorem dJ13_bitCount_95d88_45 : decode cJ13_bitCount_95d88 45 = .ok (.lushr, 1) := by decide +kernel
theorem dJ13_bitCount_95d88_46 : decode cJ13_bitCount_95d88 46 = .ok (.ladd, 1) := by decide +kernel
theorem dJ13_bitCount_95d88_47 : decode cJ13_bitCount_95d88 47 = .ok (.lstore_n 0, 1) := by decide +kernel
theorem dJ13_bitCount_95d88_48 : decode cJ13_bitCount_95d88 48 = .ok (.lload_n 0, 1) := by decide +kernel
theorem dJ13_bitCount_95d88_49 : decode cJ13_bitCount_95d88 49 = .ok (.lload_n 0, 1) := by decide +kernel
theorem dJ13_bitCount_95d88_50 : decode cJ13_bitCount_95d88 50 = .ok (.bipush 32, 2) := by decide +kernel
theorem dJ13_bitCount_95d88_52 : decode cJ13_bitCount_95d88 52 = .ok (.lushr, 1) := by decide +kernel
theorem dJ13_bitCount_95d88_53 : decode cJ13_bitCount_95d88 53 = .ok (.ladd, 1) := by decide +kernel
theorem dJ13_bitCount_95d88_54 : decode cJ13_bitCount_95d88 54 = .ok (.lstore_n 0, 1) := by decide +kernel
theorem dJ13_bitCount_95d88_55 : decode cJ13_bitCount_95d88 55 = .ok (.lload_n 0, 1) := by decide +kernel
theorem dJ13_bitCount_95d88_56 : decode cJ13_bitCount_95d88 56 = .ok (.l2i, 1) := by decide +kernel
theorem dJ13_bitCount_95d88_57 : decode cJ13_bitCount_95d88 57 = .ok (.bipush 127, 2) := by decide +kernel
theorem dJ13_bitCount_95d88_59 : decode cJ13_bitCount_95d88 59 = .ok (.iand, 1) := by decide +kernel
theorem dJ13_bitCount_95d88_60 : decode cJ13_bitCount_95d88 60 = .ok (.ireturn, 1) := by decide +kernel
theorem dJ9_max_7cf53_0 : decode cJ9_max_7cf53 0 = .ok (.iload_n 0, 1) := by decide +kernel
theorem dJ9_max_7cf53_1 : decode cJ9_max_7cf53 1 = .ok (.iload_n 1, 1) := by decide +kernel
theorem dJ9_max_7cf53_2 : decode cJ9_max_7cf53 2 = .ok (.if_icmp .lt 7, 3) := by decide +kernel
theorem dJ9_max_7cf53_5 : decode cJ9_max_7cf53 5 = .ok (.iload_n 0, 1) := by decide +kernel
theorem dJ9_max_7cf53_6 : decode cJ9_max_7cf53 6 = .ok (.goto 4, 3) := by decide +kernel
theorem dJ9_max_7cf53_9 : decode cJ9_max_7cf53 9 = .ok (.iload_n 1, 1) := by decide +kernel
theorem dJ9_max_7cf53_10 : decode cJ9_max_7cf53 10 = .ok (.ireturn, 1) := by decide +kernel
theorem dJ9_min_7cf53_0 : decode cJ9_min_7cf53 0 = .ok (.iload_n 0, 1) := by decide +kernel
theorem dJ9_min_7cf53_1 : decode cJ9_min_7cf53 1 = .ok (.iload_n 1, 1) := by decide +kernel
theorem dJ9_min_7cf53_2 : decode cJ9_min_7cf53 2 = .ok (.if_icmp .gt 7, 3) := by decide +kernel
theorem dJ9_min_7cf53_5 : decode cJ9_min_7cf53 5 = .ok (.iload_n 0, 1) := by decide +kernel
theorem dJ9_min_7cf53_6 : decode cJ9_min_7cf53 6 = .ok (.goto 4, 3) := by decide +kernel
theorem dJ9_min_7cf53_9 : decode cJ9_min_7cf53 9 = .ok (.iload_n 1, 1) := by decide +kernel
theorem dJ9_min_7cf53_10 : decode cJ9_min_7cf53 10 = .ok (.ireturn, 1) := by decide +kernel
theorem dJ7_fill_d0a16_0 : decode cJ7_fill_d0a16 0 = .ok (.iconst 0, 1) := by decide +kernel
theorem dJ7_fill_d0a16_1 : decode cJ7_fill_d0a16 1 = .ok (.istore_n 3, 1) := by decide +kernel
theorem dJ7_fill_d0a16_2 : decode cJ7_fill_d0a16 2 = .ok (.aload_n 0, 1) := by decide +kernel
theorem dJ7_fill_d0a16_3 : decode cJ7_fill_d0a16 3 = .ok (.arraylength, 1) := by decide +kernel
theorem dJ7_fill_d0a16_4 : decode cJ7_fill_d0a16 4 = .ok (.istore 4, 2) := by decide +kernel
theorem dJ7_fill_d0a16_6 : decode cJ7_fill_d0a16 6 = .ok (.iload_n 3, 1) := by decide +kernel
theorem dJ7_fill_d0a16_7 : decode cJ7_fill_d0a16 7 = .ok (.iload 4, 2) := by decide +kernel
theorem dJ7_fill_d0a16_9 : decode cJ7_fill_d0a16 9 = .ok (.if_icmp .ge 13, 3) := by decide +kernel
theorem dJ7_fill_d0a16_12 : decode cJ7_fill_d0a16 12 = .ok (.aload_n 0, 1) := by decide +kernel
theorem dJ7_fill_d0a16_13 : decode cJ7_fill_d0a16 13 = .ok (.iload_n 3, 1) := by decide +kernel
theorem dJ7_fill_d0a16_14 : decode cJ7_fill_d0a16 14 = .ok (.lload_n 1, 1) := by decide +kernel
theorem dJ7_fill_d0a16_15 : decode cJ7_fill_d0a16 15 = .ok (.lastore, 1) := by decide +kernel
theorem dJ7_fill_d0a16_16 : decode cJ7_fill_d0a16 16 = .ok (.iinc 3 1, 3) := by decide +kernel
theorem dJ7_fill_d0a16_19 : decode cJ7_fill_d0a16 19 = .ok (.goto (-13), 3) := by decide +kernel
theorem dJ7_fill_d0a16_22 : decode cJ7_fill_d0a16 22 = .ok (.return_, 1) := by decide +kernel
theorem dJ7_fill_53178_0 : decode cJ7_fill_53178 0 = .ok (.iconst 0, 1) := by decide +kernel
theorem dJ7_fill_53178_1 : decode cJ7_fill_53178 1 = .ok (.istore_n 2, 1) := by decide +kernel
theorem dJ7_fill_53178_2 : decode cJ7_fill_53178 2 = .ok (.aload_n 0, 1) := by decide +kernel
theorem dJ7_fill_53178_3 : decode cJ7_fill_53178 3 = .ok (.arraylength, 1) := by decide +kernel
theorem dJ7_fill_53178_4 : decode cJ7_fill_53178 4 = .ok (.istore_n 3, 1) := by decide +kernel
theorem dJ7_fill_53178_5 : decode cJ7_fill_53178 5 = .ok (.iload_n 2, 1) := by decide +kernel
theorem dJ7_fill_53178_6 : decode cJ7_fill_53178 6 = .ok (.iload_n 3, 1) := by decide +kernel
theorem dJ7_fill_53178_7 : decode cJ7_fill_53178 7 = .ok (.if_icmp .ge 13, 3) := by decide +kernel
theorem dJ7_fill_53178_10 : decode cJ7_fill_53178 10 = .ok (.aload_n 0, 1) := by decide +kernel
theorem dJ7_fill_53178_11 : decode cJ7_fill_53178 11 = .ok (.iload_n 2, 1) := by decide +kernel
theorem dJ7_fill_53178_12 : decode cJ7_fill_53178 12 = .ok (.iload_n 1, 1) := by decide +kernel
theorem dJ7_fill_53178_13 : decode cJ7_fill_53178 13 = .ok (.iastore, 1) := by decide +kernel
theorem dJ7_fill_53178_14 : decode cJ7_fill_53178 14 = .ok (.iinc 2 1, 3) := by decide +kernel
theorem dJ7_fill_53178_17 : decode cJ7_fill_53178 17 = .ok (.goto (-12), 3) := by decide +kernel
theorem dJ7_fill_53178_20 : decode cJ7_fill_53178 20 = .ok (.return_, 1) := by decide +kernel
set_option maxRecDepth 20000 in
theorem ggL_add_X8_add : GoodIn wsL_add wsX8_add := goodIn_ca (goodIn_ca (goodIn_ca (goodIn_r _ [8, 9, 10, 11, 12, 13, 14, 15, 16, 7, 17, 18, 19, 20, 21, 22, 23, 24, 25, 26, 27, 28, 29, 30, 31, 32, 33, 34, 35, 36, 37, 38, 39, 40, 41, 42, 43, 44, 45, 46, 47, 48, 49, 50, 51, 52, 53, 54, 55, 56, 57, 58, 59, 60, 61, 62, 63, 64, 65, 66, 67, 68, 69, 70, 71, 72, 73, 74, 75, 76, 77, 78, 79, 80, 81, 82, 83, 84, 85, 86, 87, 88, 89, 90, 91, 92, 93] (by decide +kernel) (by decide +kernel)) (goodIn_sub (fun _ h => List.mem_cons_of_mem _ (List.mem_append_left _ (List.mem_append_left _ (List.mem_append_right _ h)))) (by decide +kernel))) (goodIn_sub (fun _ h => List.mem_cons_of_mem _ (List.mem_append_left _ (List.mem_append_right _ h))) (by decide +kernel))) (goodIn_sub (fun _ h => List.mem_cons_of_mem _ (List.mem_append_right _ h)) (by decide +kernel))
set_option maxRecDepth 20000 in
theorem gL_add_X8_add : GoodIn wsL_add (wsV RL 7 RX8 yX8_add wsX8_add) := goodIn_app (goodIn_of _ (by decide +kernel)) ggL_add_X8_add
theorem dL_add_0 : decode cL_add 0 = .ok (.aload_n 3, 1) := by decide +kernel
theorem dL_add_1 : decode cL_add 1 = .ok (.iconst 0, 1) := by decide +kernel
theorem dL_add_2 : decode cL_add 2 = .ok (.aload_n 0, 1) := by decide +kernel
theorem dL_add_3 : decode cL_add 3 = .ok (.iload_n 1, 1) := by decide +kernel
theorem dL_add_4 : decode cL_add 4 = .ok (.iload_n 2, 1) := by decide +kernel
theorem dL_add_5 : decode cL_add 5 = .ok (.invokevirtual 7, 3) := by decide +kernel
theorem dL_add_8 : decode cL_add 8 = .ok (.i2l, 1) := by decide +kernel
theorem dL_add_9 : decode cL_add 9 = .ok (.lastore, 1) := by decide +kernel
theorem dL_add_10 : decode cL_add 10 = .ok (.goto 15, 3) := by decide +kernel
theorem dL_add_13 : decode cL_add 13 = .ok (.astore 4, 2) := by decide +kernel
theorem dL_add_15 : decode cL_add 15 = .ok (.iconst 1, 1) := by decide +kernel
theorem dL_add_16 : decode cL_add 16 = .ok (.ireturn, 1) := by decide +kernel
theorem dL_add_17 : decode cL_add 17 = .ok (.astore 4, 2) := by decide +kernel
theorem dL_add_19 : decode cL_add 19 = .ok (.iconst 2, 1) := by decide +kernel
theorem dL_add_20 : decode cL_add 20 = .ok (.ireturn, 1) := by decide +kernel
theorem dL_add_21 : decode cL_add 21 = .ok (.astore 4, 2) := by decide +kernel
theorem dL_add_23 : decode cL_add 23 = .ok (.iconst 3, 1) := by decide +kernel
theorem dL_add_24 : decode cL_add 24 = .ok (.ireturn, 1) := by decide +kernel
theorem dL_add_25 : decode cL_add 25 = .ok (.iconst 0, 1) := by decide +kernel
theorem dL_add_26 : decode cL_add 26 = .ok (.ireturn, 1) := by decide +kernel
set_option maxRecDepth 20000 in
theorem ggL_remove_X8_remove : GoodIn wsL_remove wsX8_remove := goodIn_ca (goodIn_ca (goodIn_r _ [7, 8, 9, 10, 11, 12, 13, 6, 14, 15, 16, 17, 18, 19, 20, 21, 22, 23, 24, 25, 26, 27, 28, 29, 30, 31, 32, 33, 34, 35, 36, 37, 38, 39, 40, 41, 42, 43, 44, 45, 46, 47, 48, 49, 50, 51, 52, 53, 54, 55, 56, 57, 58, 59, 60, 61, 62, 63, 64, 65, 66, 67, 68, 69, 70, 71, 72, 73, 74, 75, 76, 77, 78, 79, 80, 81, 82, 83, 84, 85, 86, 87, 88, 89, 90] (by decide +kernel) (by decide +kernel)) (goodIn_sub (fun _ h => List.mem_cons_of_mem _ (List.mem_append_left _ (List.mem_append_right _ h))) (by decide +kernel))) (goodIn_sub (fun _ h => List.mem_cons_of_mem _ (List.mem_append_right _ h)) (by decide +kernel))
set_option maxRecDepth 20000 in
theorem gL_remove_X8_remove : GoodIn wsL_remove (wsV RL 19 RX8 yX8_remove wsX8_remove) := goodIn_app (goodIn_of _ (by decide +kernel)) ggL_remove_X8_remove
theorem dL_remove_0 : decode cL_remove 0 = .ok (.aload_n 3, 1) := by decide +kernel
theorem dL_remove_1 : decode cL_remove 1 = .ok (.iconst 0, 1) := by decide +kernel
theorem dL_remove_2 : decode cL_remove 2 = .ok (.aload_n 0, 1) := by decide +kernel
theorem dL_remove_3 : decode cL_remove 3 = .ok (.iload_n 1, 1) := by decide +kernel
theorem dL_remove_4 : decode cL_remove 4 = .ok (.iload_n 2, 1) := by decide +kernel
theorem dL_remove_5 : decode cL_remove 5 = .ok (.invokevirtual 19, 3) := by decide +kernel
theorem dL_remove_8 : decode cL_remove 8 = .ok (.i2l, 1) := by decide +kernel
theorem dL_remove_9 : decode cL_remove 9 = .ok (.lastore, 1) := by decide +kernel
theorem dL_remove_10 : decode cL_remove 10 = .ok (.goto 11, 3) := by decide +kernel
theorem dL_remove_13 : decode cL_remove 13 = .ok (.astore 4, 2) := by decide +kernel
theorem dL_remove_15 : decode cL_remove 15 = .ok (.iconst 1, 1) := by decide +kernel
theorem dL_remove_16 : decode cL_remove 16 = .ok (.ireturn, 1) := by decide +kernel
theorem dL_remove_17 : decode cL_remove 17 = .ok (.astore 4, 2) := by decide +kernel
theorem dL_remove_19 : decode cL_remove 19 = .ok (.iconst 2, 1) := by decide +kernel
theorem dL_remove_20 : decode cL_remove 20 = .ok (.ireturn, 1) := by decide +kernel
theorem dL_remove_21 : decode cL_remove 21 = .ok (.iconst 0, 1) := by decide +kernel
theorem dL_remove_22 : decode cL_remove 22 = .ok (.ireturn, 1) := by decide +kernel
set_option maxRecDepth 20000 in
theorem ggL_clear_X8_clear : GoodIn wsL_clear wsX8_clear := goodIn_ca (goodIn_r _ [6, 7, 8, 9, 10, 5, 11, 12, 13, 14, 15, 16, 17, 18, 19, 20, 21, 22, 23, 24, 25, 26, 27, 28, 29, 30, 31, 32, 33, 34, 35, 36, 37, 38, 39, 40, 41, 42, 43, 44, 45, 46, 47, 48, 49, 50, 51, 52, 53, 54, 55, 56, 57, 58, 59, 60, 61, 62, 63, 64, 65, 66, 67, 68, 69, 70] (by decide +kernel) (by decide +kernel)) (goodIn_sub (fun _ h => List.mem_cons_of_mem _ (List.mem_append_right _ h)) (by decide +kernel))
set_option maxRecDepth 20000 in
theorem gL_clear_X8_clear : GoodIn wsL_clear (wsV RL 22 RX8 yX8_clear wsX8_clear) := goodIn_app (goodIn_of _ (by decide +kernel)) ggL_clear_X8_clear
theorem dL_clear_0 : decode cL_clear 0 = .ok (.aload_n 2, 1) := by decide +kernel
theorem dL_clear_1 : decode cL_clear 1 = .ok (.iconst 0, 1) := by decide +kernel
theorem dL_clear_2 : decode cL_clear 2 = .ok (.aload_n 0, 1) := by decide +kernel
theorem dL_clear_3 : decode cL_clear 3 = .ok (.iload_n 1, 1) := by decide +kernel
theorem dL_clear_4 : decode cL_clear 4 = .ok (.invokevirtual 22, 3) := by decide +kernel
theorem dL_clear_7 : decode cL_clear 7 = .ok (.i2l, 1) := by decide +kernel
theorem dL_clear_8 : decode cL_clear 8 = .ok (.lastore, 1) := by decide +kernel
theorem dL_clear_9 : decode cL_clear 9 = .ok (.goto 6, 3) := by decide +kernel
theorem dL_clear_12 : decode cL_clear 12 = .ok (.astore_n 3, 1) := by decide +kernel
theorem dL_clear_13 : decode cL_clear 13 = .ok (.iconst 1, 1) := by decide +kernel
theorem dL_clear_14 : decode cL_clear 14 = .ok (.ireturn, 1) := by decide +kernel
theorem dL_clear_15 : decode cL_clear 15 = .ok (.iconst 0, 1) := by decide +kernel
theorem dL_clear_16 : decode cL_clear 16 = .ok (.ireturn, 1) := by decide +kernel
set_option maxRecDepth 20000 in
theorem ggL_copy_X8_copy : GoodIn wsL_copy wsX8_copy := goodIn_ca (goodIn_r _ [6, 7, 8, 9, 10, 5, 11, 12, 13, 14, 15, 16, 17, 18, 19, 20, 21, 22, 23, 24, 25, 26, 27, 28, 29, 30, 31, 32, 33, 34, 35, 36, 37, 38, 39, 40, 41, 42, 43, 44, 45, 46, 47, 48, 49, 50, 51, 52, 53, 54, 55, 56, 57, 58, 59, 60, 61, 62, 63, 64, 65, 66] (by decide +kernel) (by decide +kernel)) (goodIn_sub (fun _ h => List.mem_cons_of_mem _ (List.mem_append_right _ h)) (by decide +kernel))
set_option maxRecDepth 20000 in
theorem gL_copy_X8_copy : GoodIn wsL_copy (wsV RL 26 RX8 yX8_copy wsX8_copy) := goodIn_app (goodIn_of _ (by decide +kernel)) ggL_copy_X8_copy
theorem dL_copy_0 : decode cL_copy 0 = .ok (.aload_n 3, 1) := by decide +kernel
theorem dL_copy_1 : decode cL_copy 1 = .ok (.iconst 0, 1) := by decide +kernel
theorem dL_copy_2 : decode cL_copy 2 = .ok (.aload_n 0, 1) := by decide +kernel
theorem dL_copy_3 : decode cL_copy 3 = .ok (.iload_n 1, 1) := by decide +kernel
theorem dL_copy_4 : decode cL_copy 4 = .ok (.iload_n 2, 1) := by decide +kernel
theorem dL_copy_5 : decode cL_copy 5 = .ok (.invokevirtual 26, 3) := by decide +kernel
theorem dL_copy_8 : decode cL_copy 8 = .ok (.i2l, 1) := by decide +kernel
theorem dL_copy_9 : decode cL_copy 9 = .ok (.lastore, 1) := by decide +kernel
theorem dL_copy_10 : decode cL_copy 10 = .ok (.goto 7, 3) := by decide +kernel
theorem dL_copy_13 : decode cL_copy 13 = .ok (.astore 4, 2) := by decide +kernel
theorem dL_copy_15 : decode cL_copy 15 = .ok (.iconst 1, 1) := by decide +kernel
theorem dL_copy_16 : decode cL_copy 16 = .ok (.ireturn, 1) := by decide +kernel
theorem dL_copy_17 : decode cL_copy 17 = .ok (.iconst 0, 1) := by decide +kernel
theorem dL_copy_18 : decode cL_copy 18 = .ok (.ireturn, 1) := by decide +kernel
set_option maxRecDepth 20000 in
theorem ggL_size_X8_size : GoodIn wsL_size wsX8_size := goodIn_ca (goodIn_r _ [6, 7, 8, 9, 5, 10, 11, 12, 13, 14, 15, 16, 17, 18, 19, 20, 21, 22, 23, 24, 25, 26] (by decide +kernel) (by decide +kernel)) (goodIn_sub (fun _ h => List.mem_cons_of_mem _ (List.mem_append_right _ h)) (by decide +kernel))
set_option maxRecDepth 20000 in
theorem gL_size_X8_size : GoodIn wsL_size (wsV RL 29 RX8 yX8_size wsX8_size) := goodIn_app (goodIn_of _ (by decide +kernel)) ggL_size_X8_size
theorem dL_size_0 : decode cL_size 0 = .ok (.aload_n 2, 1) := by decide +kernel
theorem dL_size_1 : decode cL_size 1 = .ok (.iconst 0, 1) := by decide +kernel
theorem dL_size_2 : decode cL_size 2 = .ok (.aload_n 0, 1) := by decide +kernel
theorem dL_size_3 : decode cL_size 3 = .ok (.iload_n 1, 1) := by decide +kernel
theorem dL_size_4 : decode cL_size 4 = .ok (.invokevirtual 29, 3) := by decide +kernel
theorem dL_size_7 : decode cL_size 7 = .ok (.i2l, 1) := by decide +kernel
theorem dL_size_8 : decode cL_size 8 = .ok (.lastore, 1) := by decide +kernel
theorem dL_size_9 : decode cL_size 9 = .ok (.goto 6, 3) := by decide +kernel
theorem dL_size_12 : decode cL_size 12 = .ok (.astore_n 3, 1) := by decide +kernel
theorem dL_size_13 : decode cL_size 13 = .ok (.iconst 1, 1) := by decide +kernel
theorem dL_size_14 : decode cL_size 14 = .ok (.ireturn, 1) := by decide +kernel
theorem dL_size_15 : decode cL_size 15 = .ok (.iconst 0, 1) := by decide +kernel
theorem dL_size_16 : decode cL_size 16 = .ok (.ireturn, 1) := by decide +kernel
set_option maxRecDepth 20000 in
theorem ggL_mark_X8_mark : GoodIn wsL_mark wsX8_mark := goodIn_ca (goodIn_r _ [6, 7, 8, 9, 10, 11, 5, 12, 13, 14, 15, 16, 17, 18, 19, 20, 21, 22, 23, 24, 25, 26, 27, 28, 29, 30, 31, 32, 33] (by decide +kernel) (by decide +kernel)) (goodIn_sub (fun _ h => List.mem_cons_of_mem _ (List.mem_append_right _ h)) (by decide +kernel))
set_option maxRecDepth 20000 in
theorem gL_mark_X8_mark : GoodIn wsL_mark (wsV RL 32 RX8 yX8_mark wsX8_mark) := goodIn_app (goodIn_of _ (by decide +kernel)) ggL_mark_X8_mark
theorem dL_mark_0 : decode cL_mark 0 = .ok (.aload_n 3, 1) := by decide +kernel
theorem dL_mark_1 : decode cL_mark 1 = .ok (.iconst 0, 1) := by decide +kernel
theorem dL_mark_2 : decode cL_mark 2 = .ok (.aload_n 0, 1) := by decide +kernel
theorem dL_mark_3 : decode cL_mark 3 = .ok (.iload_n 1, 1) := by decide +kernel
theorem dL_mark_4 : decode cL_mark 4 = .ok (.iload_n 2, 1) := by decide +kernel
theorem dL_mark_5 : decode cL_mark 5 = .ok (.invokevirtual 32, 3) := by decide +kernel
theorem dL_mark_8 : decode cL_mark 8 = .ok (.i2l, 1) := by decide +kernel
theorem dL_mark_9 : decode cL_mark 9 = .ok (.lastore, 1) := by decide +kernel
theorem dL_mark_10 : decode cL_mark 10 = .ok (.goto 7, 3) := by decide +kernel
theorem dL_mark_13 : decode cL_mark 13 = .ok (.astore 4, 2) := by decide +kernel
theorem dL_mark_15 : decode cL_mark 15 = .ok (.iconst 1, 1) := by decide +kernel
theorem dL_mark_16 : decode cL_mark 16 = .ok (.ireturn, 1) := by decide +kernel
theorem dL_mark_17 : decode cL_mark 17 = .ok (.iconst 0, 1) := by decide +kernel
theorem dL_mark_18 : decode cL_mark 18 = .ok (.ireturn, 1) := by decide +kernel
set_option maxRecDepth 20000 in
theorem ggL_length_X8_length : GoodIn wsL_length wsX8_length := goodIn_ca (goodIn_r _ [6, 7, 8, 9, 5, 10, 11, 12, 13, 14, 15, 16, 17, 18, 19, 20, 21, 22, 23, 24, 25, 26, 27, 28, 29, 30, 31, 32, 33, 34, 35, 36, 37, 38, 39, 40, 41] (by decide +kernel) (by decide +kernel)) (goodIn_sub (fun _ h => List.mem_cons_of_mem _ (List.mem_append_right _ h)) (by decide +kernel))
set_option maxRecDepth 20000 in
theorem gL_length_X8_length : GoodIn wsL_length (wsV RL 35 RX8 yX8_length wsX8_length) := goodIn_app (goodIn_of _ (by decide +kernel)) ggL_length_X8_length
theorem dL_length_0 : decode cL_length 0 = .ok (.aload_n 2, 1) := by decide +kernel
theorem dL_length_1 : decode cL_length 1 = .ok (.iconst 0, 1) := by decide +kernel
theorem dL_length_2 : decode cL_length 2 = .ok (.aload_n 0, 1) := by decide +kernel
theorem dL_length_3 : decode cL_length 3 = .ok (.iload_n 1, 1) := by decide +kernel
theorem dL_length_4 : decode cL_length 4 = .ok (.invokevirtual 35, 3) := by decide +kernel
theorem dL_length_7 : decode cL_length 7 = .ok (.i2l, 1) := by decide +kernel
theorem dL_length_8 : decode cL_length 8 = .ok (.lastore, 1) := by decide +kernel
theorem dL_length_9 : decode cL_length 9 = .ok (.goto 6, 3) := by decide +kernel
theorem dL_length_12 : decode cL_length 12 = .ok (.astore_n 3, 1) := by decide +kernel
theorem dL_length_13 : decode cL_length 13 = .ok (.iconst 1, 1) := by decide +kernel
theorem dL_length_14 : decode cL_length 14 = .ok (.ireturn, 1) := by decide +kernel
theorem dL_length_15 : decode cL_length 15 = .ok (.iconst 0, 1) := by decide +kernel
theorem dL_length_16 : decode cL_length 16 = .ok (.ireturn, 1) := by decide +kernel
set_option maxRecDepth 20000 in
theorem ggL_multiplicity_X8_multiplicity : GoodIn wsL_multiplicity wsX8_multiplicity := goodIn_ca (goodIn_ca (goodIn_r _ [7, 8, 9, 10, 11, 12, 6, 13, 14, 15, 16, 17, 18, 19, 20, 21, 22, 23, 24, 25, 26, 27, 28, 29, 30, 31, 32, 33, 34, 35, 36] (by decide +kernel) (by decide +kernel)) (goodIn_sub (fun _ h => List.mem_cons_of_mem _ (List.mem_append_left _ (List.mem_append_right _ h))) (by decide +kernel))) (goodIn_sub (fun _ h => List.mem_cons_of_mem _ (List.mem_append_right _ h)) (by decide +kernel))
set_option maxRecDepth 20000 in
theorem gL_multiplicity_X8_multiplicity : GoodIn wsL_multiplicity (wsV RL 38 RX8 yX8_multiplicity wsX8_multiplicity) := goodIn_app (goodIn_of _ (by decide +kernel)) ggL_multiplicity_X8_multiplicity
theorem dL_multiplicity_0 : decode cL_multiplicity 0 = .ok (.aload_n 3, 1) := by decide +kernel
theorem dL_multiplicity_1 : decode cL_multiplicity 1 = .ok (.iconst 0, 1) := by decide +kernel
theorem dL_multiplicity_2 : decode cL_multiplicity 2 = .ok (.aload_n 0, 1) := by decide +kernel
theorem dL_multiplicity_3 : decode cL_multiplicity 3 = .ok (.iload_n 1, 1) := by decide +kernel
theorem dL_multiplicity_4 : decode cL_multiplicity 4 = .ok (.iload_n 2, 1) := by decide +kernel
theorem dL_multiplicity_5 : decode cL_multiplicity 5 = .ok (.invokevirtual 38, 3) := by decide +kernel
theorem dL_multiplicity_8 : decode cL_multiplicity 8 = .ok (.i2l, 1) := by decide +kernel
theorem dL_multiplicity_9 : decode cL_multiplicity 9 = .ok (.lastore, 1) := by decide +kernel
theorem dL_multiplicity_10 : decode cL_multiplicity 10 = .ok (.goto 11, 3) := by decide +kernel
theorem dL_multiplicity_13 : decode cL_multiplicity 13 = .ok (.astore 4, 2) := by decide +kernel
theorem dL_multiplicity_15 : decode cL_multiplicity 15 = .ok (.iconst 1, 1) := by decide +kernel
theorem dL_multiplicity_16 : decode cL_multiplicity 16 = .ok (.ireturn, 1) := by decide +kernel
theorem dL_multiplicity_17 : decode cL_multiplicity 17 = .ok (.astore 4, 2) := by decide +kernel
theorem dL_multiplicity_19 : decode cL_multiplicity 19 = .ok (.iconst 2, 1) := by decide +kernel
theorem dL_multiplicity_20 : decode cL_multiplicity 20 = .ok (.ireturn, 1) := by decide +kernel
theorem dL_multiplicity_21 : decode cL_multiplicity 21 = .ok (.iconst 0, 1) := by decide +kernel
theorem dL_multiplicity_22 : decode cL_multiplicity 22 = .ok (.ireturn, 1) := by decide +kernel
set_option maxRecDepth 20000 in
theorem ggL_isRuler_X8_isRuler : GoodIn wsL_isRuler wsX8_isRuler := goodIn_ca (goodIn_r _ [6, 7, 8, 5, 9, 10, 11, 12, 13, 14, 15, 16, 17, 18, 19, 20, 21, 22, 23, 24, 25, 26, 27, 28, 29, 30, 31, 32, 33, 34, 35, 36, 37, 38, 39, 40, 41, 42, 43, 44, 45, 46, 47, 48, 49, 50, 51, 52, 53, 54, 55, 56, 57, 58, 59, 60, 61, 62, 63, 64, 65, 66, 67] (by decide +kernel) (by decide +kernel)) (goodIn_sub (fun _ h => List.mem_cons_of_mem _ (List.mem_append_right _ h)) (by decide +kernel))
set_option maxRecDepth 20000 in
theorem gL_isRuler_X8_isRuler : GoodIn wsL_isRuler (wsV RL 41 RX8 yX8_isRuler wsX8_isRuler) := goodIn_app (goodIn_of _ (by decide +kernel)) ggL_isRuler_X8_isRuler
theorem dL_isRuler_0 : decode cL_isRuler 0 = .ok (.aload_n 2, 1) := by decide +kernel
theorem dL_isRuler_1 : decode cL_isRuler 1 = .ok (.iconst 0, 1) := by decide +kernel
theorem dL_isRuler_2 : decode cL_isRuler 2 = .ok (.aload_n 0, 1) := by decide +kernel
theorem dL_isRuler_3 : decode cL_isRuler 3 = .ok (.iload_n 1, 1) := by decide +kernel
theorem dL_isRuler_4 : decode cL_isRuler 4 = .ok (.invokevirtual 41, 3) := by decide +kernel
theorem dL_isRuler_7 : decode cL_isRuler 7 = .ok (.ifCond .eq 7, 3) := by decide +kernel
theorem dL_isRuler_10 : decode cL_isRuler 10 = .ok (.lconst 1, 1) := by decide +kernel
theorem dL_isRuler_11 : decode cL_isRuler 11 = .ok (.goto 4, 3) := by decide +kernel
theorem dL_isRuler_14 : decode cL_isRuler 14 = .ok (.lconst 0, 1) := by decide +kernel
theorem dL_isRuler_15 : decode cL_isRuler 15 = .ok (.lastore, 1) := by decide +kernel
theorem dL_isRuler_16 : decode cL_isRuler 16 = .ok (.goto 6, 3) := by decide +kernel
theorem dL_isRuler_19 : decode cL_isRuler 19 = .ok (.astore_n 3, 1) := by decide +kernel
theorem dL_isRuler_20 : decode cL_isRuler 20 = .ok (.iconst 1, 1) := by decide +kernel
theorem dL_isRuler_21 : decode cL_isRuler 21 = .ok (.ireturn, 1) := by decide +kernel
theorem dL_isRuler_22 : decode cL_isRuler 22 = .ok (.iconst 0, 1) := by decide +kernel
theorem dL_isRuler_23 : decode cL_isRuler 23 = .ok (.ireturn, 1) := by decide +kernel
set_option maxRecDepth 20000 in
theorem ggL_completeUpTo_X8_completeUpTo : GoodIn wsL_completeUpTo wsX8_completeUpTo := goodIn_ca (goodIn_r _ [6, 7, 8, 5, 9, 10, 11, 12, 13, 14, 15, 16, 17, 18, 19, 20, 21, 22, 23, 24, 25, 26, 27, 28, 29, 30, 31, 32, 33, 34, 35, 36, 37, 38, 39, 40, 41, 42, 43, 44, 45, 46, 47, 48, 49, 50, 51, 52, 53, 54, 55, 56, 57, 58, 59, 60, 61, 62, 63, 64, 65, 66, 67, 68, 69, 70, 71] (by decide +kernel) (by decide +kernel)) (goodIn_sub (fun _ h => List.mem_cons_of_mem _ (List.mem_append_right _ h)) (by decide +kernel))
set_option maxRecDepth 20000 in
theorem gL_completeUpTo_X8_completeUpTo : GoodIn wsL_completeUpTo (wsV RL 45 RX8 yX8_completeUpTo wsX8_completeUpTo) := goodIn_app (goodIn_of _ (by decide +kernel)) ggL_completeUpTo_X8_completeUpTo
theorem dL_completeUpTo_0 : decode cL_completeUpTo 0 = .ok (.aload_n 2, 1) := by decide +kernel
theorem dL_completeUpTo_1 : decode cL_completeUpTo 1 = .ok (.iconst 0, 1) := by decide +kernel
theorem dL_completeUpTo_2 : decode cL_completeUpTo 2 = .ok (.aload_n 0, 1) := by decide +kernel
theorem dL_completeUpTo_3 : decode cL_completeUpTo 3 = .ok (.iload_n 1, 1) := by decide +kernel
theorem dL_completeUpTo_4 : decode cL_completeUpTo 4 = .ok (.invokevirtual 45, 3) := by decide +kernel
theorem dL_completeUpTo_7 : decode cL_completeUpTo 7 = .ok (.i2l, 1) := by decide +kernel
theorem dL_completeUpTo_8 : decode cL_completeUpTo 8 = .ok (.lastore, 1) := by decide +kernel
theorem dL_completeUpTo_9 : decode cL_completeUpTo 9 = .ok (.goto 6, 3) := by decide +kernel
theorem dL_completeUpTo_12 : decode cL_completeUpTo 12 = .ok (.astore_n 3, 1) := by decide +kernel
theorem dL_completeUpTo_13 : decode cL_completeUpTo 13 = .ok (.iconst 1, 1) := by decide +kernel
theorem dL_completeUpTo_14 : decode cL_completeUpTo 14 = .ok (.ireturn, 1) := by decide +kernel
theorem dL_completeUpTo_15 : decode cL_completeUpTo 15 = .ok (.iconst 0, 1) := by decide +kernel
theorem dL_completeUpTo_16 : decode cL_completeUpTo 16 = .ok (.ireturn, 1) := by decide +kernel
set_option maxRecDepth 20000 in
theorem ggL_differences_X8_differences : GoodIn wsL_differences wsX8_differences := goodIn_ca (goodIn_r _ [6, 7, 8, 5, 9, 10, 11, 12, 13, 14, 15, 16, 17, 18, 19, 20, 21, 22, 23, 24, 25, 26, 27, 28, 29, 30, 31, 32, 33, 34, 35, 36, 37, 38, 39, 40, 41, 42, 43, 44, 45, 46, 47, 48, 49, 50, 51, 52, 53, 54, 55, 56, 57, 58, 59, 60, 61, 62, 63, 64, 65, 66, 67, 68, 69, 70, 71, 72, 73, 74, 75, 76, 77, 78] (by decide +kernel) (by decide +kernel)) (goodIn_sub (fun _ h => List.mem_cons_of_mem _ (List.mem_append_right _ h)) (by decide +kernel))
set_option maxRecDepth 20000 in
theorem gL_differences_X8_differences : GoodIn wsL_differences (wsV RL 48 RX8 yX8_differences wsX8_differences) := goodIn_app (goodIn_of _ (by decide +kernel)) ggL_differences_X8_differences
theorem dL_differences_0 : decode cL_differences 0 = .ok (.aload_n 2, 1) := by decide +kernel
theorem dL_differences_1 : decode cL_differences 1 = .ok (.iconst 0, 1) := by decide +kernel
theorem dL_differences_2 : decode cL_differences 2 = .ok (.aload_n 0, 1) := by decide +kernel
theorem dL_differences_3 : decode cL_differences 3 = .ok (.iload_n 1, 1) := by decide +kernel
theorem dL_differences_4 : decode cL_differences 4 = .ok (.invokevirtual 48, 3) := by decide +kernel
theorem dL_differences_7 : decode cL_differences 7 = .ok (.i2l, 1) := by decide +kernel
theorem dL_differences_8 : decode cL_differences 8 = .ok (.lastore, 1) := by decide +kernel
theorem dL_differences_9 : decode cL_differences 9 = .ok (.goto 6, 3) := by decide +kernel
theorem dL_differences_12 : decode cL_differences 12 = .ok (.astore_n 3, 1) := by decide +kernel
theorem dL_differences_13 : decode cL_differences 13 = .ok (.iconst 1, 1) := by decide +kernel
theorem dL_differences_14 : decode cL_differences 14 = .ok (.ireturn, 1) := by decide +kernel
theorem dL_differences_15 : decode cL_differences 15 = .ok (.iconst 0, 1) := by decide +kernel
theorem dL_differences_16 : decode cL_differences 16 = .ok (.ireturn, 1) := by decide +kernel
set_option maxRecDepth 20000 in
theorem ggL_isFamily_X8_isFamily : GoodIn wsL_isFamily wsX8_isFamily := goodIn_ca (goodIn_r _ [6, 7, 8, 9, 10, 11, 5, 12, 13, 14, 15, 16, 17, 18, 19, 20, 21, 22, 23, 24, 25, 26, 27, 28, 29, 30, 31, 32, 33, 34, 35, 36, 37, 38, 39, 40, 41, 42, 43, 44, 45, 46, 47, 48, 49, 50, 51, 52, 53, 54, 55, 56, 57, 58, 59, 60, 61, 62, 63, 64, 65, 66, 67, 68, 69, 70, 71, 72, 73, 74, 75, 76] (by decide +kernel) (by decide +kernel)) (goodIn_sub (fun _ h => List.mem_cons_of_mem _ (List.mem_append_right _ h)) (by decide +kernel))
set_option maxRecDepth 20000 in
theorem gL_isFamily_X8_isFamily : GoodIn wsL_isFamily (wsV RL 51 RX8 yX8_isFamily wsX8_isFamily) := goodIn_app (goodIn_of _ (by decide +kernel)) ggL_isFamily_X8_isFamily
theorem dL_isFamily_0 : decode cL_isFamily 0 = .ok (.aload_n 2, 1) := by decide +kernel
theorem dL_isFamily_1 : decode cL_isFamily 1 = .ok (.iconst 0, 1) := by decide +kernel
theorem dL_isFamily_2 : decode cL_isFamily 2 = .ok (.aload_n 0, 1) := by decide +kernel
theorem dL_isFamily_3 : decode cL_isFamily 3 = .ok (.iload_n 1, 1) := by decide +kernel
theorem dL_isFamily_4 : decode cL_isFamily 4 = .ok (.invokevirtual 51, 3) := by decide +kernel
theorem dL_isFamily_7 : decode cL_isFamily 7 = .ok (.ifCond .eq 7, 3) := by decide +kernel
theorem dL_isFamily_10 : decode cL_isFamily 10 = .ok (.lconst 1, 1) := by decide +kernel
theorem dL_isFamily_11 : decode cL_isFamily 11 = .ok (.goto 4, 3) := by decide +kernel
theorem dL_isFamily_14 : decode cL_isFamily 14 = .ok (.lconst 0, 1) := by decide +kernel
theorem dL_isFamily_15 : decode cL_isFamily 15 = .ok (.lastore, 1) := by decide +kernel
theorem dL_isFamily_16 : decode cL_isFamily 16 = .ok (.goto 6, 3) := by decide +kernel
theorem dL_isFamily_19 : decode cL_isFamily 19 = .ok (.astore_n 3, 1) := by decide +kernel
theorem dL_isFamily_20 : decode cL_isFamily 20 = .ok (.iconst 1, 1) := by decide +kernel
theorem dL_isFamily_21 : decode cL_isFamily 21 = .ok (.ireturn, 1) := by decide +kernel
theorem dL_isFamily_22 : decode cL_isFamily 22 = .ok (.iconst 0, 1) := by decide +kernel
theorem dL_isFamily_23 : decode cL_isFamily 23 = .ok (.ireturn, 1) := by decide +kernel
set_option maxRecDepth 20000 in
theorem ggL_setModulus_X8_setModulus : GoodIn wsL_setModulus wsX8_setModulus := goodIn_ca (goodIn_r _ [6, 7, 8, 9, 10, 11, 12, 13, 14, 15, 16, 17, 18, 19, 20, 21, 22, 23, 24, 25, 26, 27, 28, 29, 30, 31, 32, 33, 34, 35, 36, 37, 38, 39, 40, 41, 42, 43, 44, 45, 46, 47, 48, 49, 50, 51, 52, 53, 54, 55, 56, 57] (by decide +kernel) (by decide +kernel)) (goodIn_sub (fun _ h => List.mem_cons_of_mem _ (List.mem_append_right _ h)) (by decide +kernel))
set_option maxRecDepth 20000 in
theorem gL_setModulus_X8_setModulus : GoodIn wsL_setModulus (wsV RL 54 RX8 yX8_setModulus wsX8_setModulus) := goodIn_app (goodIn_of _ (by decide +kernel)) ggL_setModulus_X8_setModulus
theorem dL_setModulus_0 : decode cL_setModulus 0 = .ok (.aload_n 2, 1) := by decide +kernel
theorem dL_setModulus_1 : decode cL_setModulus 1 = .ok (.iconst 0, 1) := by decide +kernel
theorem dL_setModulus_2 : decode cL_setModulus 2 = .ok (.aload_n 0, 1) := by decide +kernel
theorem dL_setModulus_3 : decode cL_setModulus 3 = .ok (.iload_n 1, 1) := by decide +kernel
theorem dL_setModulus_4 : decode cL_setModulus 4 = .ok (.invokevirtual 54, 3) := by decide +kernel
theorem dL_setModulus_7 : decode cL_setModulus 7 = .ok (.i2l, 1) := by decide +kernel
theorem dL_setModulus_8 : decode cL_setModulus 8 = .ok (.lastore, 1) := by decide +kernel
theorem dL_setModulus_9 : decode cL_setModulus 9 = .ok (.goto 6, 3) := by decide +kernel
theorem dL_setModulus_12 : decode cL_setModulus 12 = .ok (.astore_n 3, 1) := by decide +kernel
theorem dL_setModulus_13 : decode cL_setModulus 13 = .ok (.iconst 1, 1) := by decide +kernel
theorem dL_setModulus_14 : decode cL_setModulus 14 = .ok (.ireturn, 1) := by decide +kernel
theorem dL_setModulus_15 : decode cL_setModulus 15 = .ok (.iconst 0, 1) := by decide +kernel
theorem dL_setModulus_16 : decode cL_setModulus 16 = .ok (.ireturn, 1) := by decide +kernel
set_option maxRecDepth 20000 in
theorem ggL_cyclicMultiplicity_X8_cyclicMultiplicity : GoodIn wsL_cyclicMultiplicity wsX8_cyclicMultiplicity := goodIn_ca (goodIn_ca (goodIn_ca (goodIn_r _ [8, 9, 10, 11, 12, 13, 7, 14, 15, 16, 17, 18, 19, 20, 21, 22, 23, 24, 25, 26, 27, 28, 29, 30, 31, 32, 33, 34, 35, 36, 37, 38, 39, 40, 41, 42, 43, 44, 45, 46, 47, 48, 49, 50, 51] (by decide +kernel) (by decide +kernel)) (goodIn_sub (fun _ h => List.mem_cons_of_mem _ (List.mem_append_left _ (List.mem_append_left _ (List.mem_append_right _ h)))) (by decide +kernel))) (goodIn_sub (fun _ h => List.mem_cons_of_mem _ (List.mem_append_left _ (List.mem_append_right _ h))) (by decide +kernel))) (goodIn_sub (fun _ h => List.mem_cons_of_mem _ (List.mem_append_right _ h)) (by decide +kernel))
set_option maxRecDepth 20000 in
theorem gL_cyclicMultiplicity_X8_cyclicMultiplicity : GoodIn wsL_cyclicMultiplicity (wsV RL 57 RX8 yX8_cyclicMultiplicity wsX8_cyclicMultiplicity) := goodIn_app (goodIn_of _ (by decide +kernel)) ggL_cyclicMultiplicity_X8_cyclicMultiplicity
theorem dL_cyclicMultiplicity_0 : decode cL_cyclicMultiplicity 0 = .ok (.aload_n 3, 1) := by decide +kernel
theorem dL_cyclicMultiplicity_1 : decode cL_cyclicMultiplicity 1 = .ok (.iconst 0, 1) := by decide +kernel
theorem dL_cyclicMultiplicity_2 : decode cL_cyclicMultiplicity 2 = .ok (.aload_n 0, 1) := by decide +kernel
theorem dL_cyclicMultiplicity_3 : decode cL_cyclicMultiplicity 3 = .ok (.iload_n 1, 1) := by decide +kernel
theorem dL_cyclicMultiplicity_4 : decode cL_cyclicMultiplicity 4 = .ok (.iload_n 2, 1) := by decide +kernel
theorem dL_cyclicMultiplicity_5 : decode cL_cyclicMultiplicity 5 = .ok (.invokevirtual 57, 3) := by decide +kernel
theorem dL_cyclicMultiplicity_8 : decode cL_cyclicMultiplicity 8 = .ok (.i2l, 1) := by decide +kernel
theorem dL_cyclicMultiplicity_9 : decode cL_cyclicMultiplicity 9 = .ok (.lastore, 1) := by decide +kernel
theorem dL_cyclicMultiplicity_10 : decode cL_cyclicMultiplicity 10 = .ok (.goto 15, 3) := by decide +kernel
theorem dL_cyclicMultiplicity_13 : decode cL_cyclicMultiplicity 13 = .ok (.astore 4, 2) := by decide +kernel
theorem dL_cyclicMultiplicity_15 : decode cL_cyclicMultiplicity 15 = .ok (.iconst 1, 1) := by decide +kernel
theorem dL_cyclicMultiplicity_16 : decode cL_cyclicMultiplicity 16 = .ok (.ireturn, 1) := by decide +kernel
theorem dL_cyclicMultiplicity_17 : decode cL_cyclicMultiplicity 17 = .ok (.astore 4, 2) := by decide +kernel
theorem dL_cyclicMultiplicity_19 : decode cL_cyclicMultiplicity 19 = .ok (.iconst 2, 1) := by decide +kernel
theorem dL_cyclicMultiplicity_20 : decode cL_cyclicMultiplicity 20 = .ok (.ireturn, 1) := by decide +kernel
theorem dL_cyclicMultiplicity_21 : decode cL_cyclicMultiplicity 21 = .ok (.astore 4, 2) := by decide +kernel
theorem dL_cyclicMultiplicity_23 : decode cL_cyclicMultiplicity 23 = .ok (.iconst 3, 1) := by decide +kernel
theorem dL_cyclicMultiplicity_24 : decode cL_cyclicMultiplicity 24 = .ok (.ireturn, 1) := by decide +kernel
theorem dL_cyclicMultiplicity_25 : decode cL_cyclicMultiplicity 25 = .ok (.iconst 0, 1) := by decide +kernel
theorem dL_cyclicMultiplicity_26 : decode cL_cyclicMultiplicity 26 = .ok (.ireturn, 1) := by decide +kernel
set_option maxRecDepth 20000 in
theorem ggL_isCyclicRuler_X8_isCyclicRuler : GoodIn wsL_isCyclicRuler wsX8_isCyclicRuler := goodIn_ca (goodIn_ca (goodIn_r _ [7, 8, 9, 10, 11, 6, 12, 13, 14, 15, 16, 17, 18, 19, 20, 21, 22, 23, 24, 25, 26, 27, 28, 29, 30, 31, 32, 33, 34, 35, 36, 37, 38, 39, 40, 41, 42, 43, 44, 45, 46, 47, 48, 49, 50, 51, 52, 53, 54, 55, 56, 57, 58, 59, 60, 61, 62, 63, 64, 65, 66, 67, 68, 69, 70, 71, 72, 73] (by decide +kernel) (by decide +kernel)) (goodIn_sub (fun _ h => List.mem_cons_of_mem _ (List.mem_append_left _ (List.mem_append_right _ h))) (by decide +kernel))) (goodIn_sub (fun _ h => List.mem_cons_of_mem _ (List.mem_append_right _ h)) (by decide +kernel))
set_option maxRecDepth 20000 in
theorem gL_isCyclicRuler_X8_isCyclicRuler : GoodIn wsL_isCyclicRuler (wsV RL 60 RX8 yX8_isCyclicRuler wsX8_isCyclicRuler) := goodIn_app (goodIn_of _ (by decide +kernel)) ggL_isCyclicRuler_X8_isCyclicRuler
theorem dL_isCyclicRuler_0 : decode cL_isCyclicRuler 0 = .ok (.aload_n 2, 1) := by decide +kernel
theorem dL_isCyclicRuler_1 : decode cL_isCyclicRuler 1 = .ok (.iconst 0, 1) := by decide +kernel
theorem dL_isCyclicRuler_2 : decode cL_isCyclicRuler 2 = .ok (.aload_n 0, 1) := by decide +kernel
theorem dL_isCyclicRuler_3 : decode cL_isCyclicRuler 3 = .ok (.iload_n 1, 1) := by decide +kernel
theorem dL_isCyclicRuler_4 : decode cL_isCyclicRuler 4 = .ok (.invokevirtual 60, 3) := by decide +kernel
theorem dL_isCyclicRuler_7 : decode cL_isCyclicRuler 7 = .ok (.ifCond .eq 7, 3) := by decide +kernel
theorem dL_isCyclicRuler_10 : decode cL_isCyclicRuler 10 = .ok (.lconst 1, 1) := by decide +kernel
theorem dL_isCyclicRuler_11 : decode cL_isCyclicRuler 11 = .ok (.goto 4, 3) := by decide +kernel
theorem dL_isCyclicRuler_14 : decode cL_isCyclicRuler 14 = .ok (.lconst 0, 1) := by decide +kernel
theorem dL_isCyclicRuler_15 : decode cL_isCyclicRuler 15 = .ok (.lastore, 1) := by decide +kernel
theorem dL_isCyclicRuler_16 : decode cL_isCyclicRuler 16 = .ok (.goto 9, 3) := by decide +kernel
theorem dL_isCyclicRuler_19 : decode cL_isCyclicRuler 19 = .ok (.astore_n 3, 1) := by decide +kernel
theorem dL_isCyclicRuler_20 : decode cL_isCyclicRuler 20 = .ok (.iconst 1, 1) := by decide +kernel
theorem dL_isCyclicRuler_21 : decode cL_isCyclicRuler 21 = .ok (.ireturn, 1) := by decide +kernel
theorem dL_isCyclicRuler_22 : decode cL_isCyclicRuler 22 = .ok (.astore_n 3, 1) := by decide +kernel
theorem dL_isCyclicRuler_23 : decode cL_isCyclicRuler 23 = .ok (.iconst 2, 1) := by decide +kernel
theorem dL_isCyclicRuler_24 : decode cL_isCyclicRuler 24 = .ok (.ireturn, 1) := by decide +kernel
theorem dL_isCyclicRuler_25 : decode cL_isCyclicRuler 25 = .ok (.iconst 0, 1) := by decide +kernel
theorem dL_isCyclicRuler_26 : decode cL_isCyclicRuler 26 = .ok (.ireturn, 1) := by decide +kernel
set_option maxRecDepth 20000 in
theorem ggL_index_X8_index : GoodIn wsL_index wsX8_index := goodIn_ca (goodIn_ca (goodIn_r _ [7, 8, 9, 10, 6, 11, 12, 13, 14, 15, 16, 17, 18, 19, 20, 21, 22, 23, 24, 25, 26, 27, 28, 29, 30, 31, 32, 33, 34, 35, 36, 37, 38, 39, 40, 41, 42, 43, 44, 45, 46, 47, 48, 49, 50, 51, 52, 53, 54, 55, 56, 57, 58, 59, 60, 61, 62, 63, 64, 65, 66, 67, 68, 69, 70, 71, 72, 73, 74, 75, 76, 77, 78] (by decide +kernel) (by decide +kernel)) (goodIn_sub (fun _ h => List.mem_cons_of_mem _ (List.mem_append_left _ (List.mem_append_right _ h))) (by decide +kernel))) (goodIn_sub (fun _ h => List.mem_cons_of_mem _ (List.mem_append_right _ h)) (by decide +kernel))
set_option maxRecDepth 20000 in
theorem gL_index_X8_index : GoodIn wsL_index (wsV RL 63 RX8 yX8_index wsX8_index) := goodIn_app (goodIn_of _ (by decide +kernel)) ggL_index_X8_index
theorem dL_index_0 : decode cL_index 0 = .ok (.aload_n 2, 1) := by decide +kernel
theorem dL_index_1 : decode cL_index 1 = .ok (.iconst 0, 1) := by decide +kernel
theorem dL_index_2 : decode cL_index 2 = .ok (.aload_n 0, 1) := by decide +kernel
theorem dL_index_3 : decode cL_index 3 = .ok (.iload_n 1, 1) := by decide +kernel
theorem dL_index_4 : decode cL_index 4 = .ok (.invokevirtual 63, 3) := by decide +kernel
theorem dL_index_7 : decode cL_index 7 = .ok (.i2l, 1) := by decide +kernel
theorem dL_index_8 : decode cL_index 8 = .ok (.lastore, 1) := by decide +kernel
theorem dL_index_9 : decode cL_index 9 = .ok (.goto 9, 3) := by decide +kernel
theorem dL_index_12 : decode cL_index 12 = .ok (.astore_n 3, 1) := by decide +kernel
theorem dL_index_13 : decode cL_index 13 = .ok (.iconst 1, 1) := by decide +kernel
theorem dL_index_14 : decode cL_index 14 = .ok (.ireturn, 1) := by decide +kernel
theorem dL_index_15 : decode cL_index 15 = .ok (.astore_n 3, 1) := by decide +kernel
theorem dL_index_16 : decode cL_index 16 = .ok (.iconst 2, 1) := by decide +kernel
theorem dL_index_17 : decode cL_index 17 = .ok (.ireturn, 1) := by decide +kernel
theorem dL_index_18 : decode cL_index 18 = .ok (.iconst 0, 1) := by decide +kernel
theorem dL_index_19 : decode cL_index 19 = .ok (.ireturn, 1) := by decide +kernel
set_option maxRecDepth 20000 in
theorem ggL_map_X8_map : GoodIn wsL_map wsX8_map := goodIn_ca (goodIn_ca (goodIn_ca (goodIn_r _ [8, 9, 10, 11, 12, 13, 14, 7, 15, 16, 17, 18, 19, 20, 21, 22, 23, 24, 25, 26, 27, 28, 29, 30, 31, 32, 33, 34, 35, 36, 37, 38, 39, 40, 41, 42, 43, 44, 45, 46, 47, 48, 49, 50, 51, 52, 53, 54, 55, 56, 57, 58, 59, 60, 61, 62, 63, 64, 65, 66, 67, 68, 69, 70, 71, 72, 73, 74, 75, 76, 77, 78, 79, 80, 81, 82, 83, 84, 85, 86, 87, 88, 89, 90, 91, 92, 93, 94, 95, 96, 97, 98, 99, 100, 101, 102, 103, 104, 105, 106, 107, 108, 109, 110, 111, 112, 113, 114, 115, 116, 117, 118, 119, 120, 121, 122, 123, 124, 125, 126, 127, 128, 129] (by decide +kernel) (by decide +kernel)) (goodIn_sub (fun _ h => List.mem_cons_of_mem _ (List.mem_append_left _ (List.mem_append_left _ (List.mem_append_right _ h)))) (by decide +kernel))) (goodIn_sub (fun _ h => List.mem_cons_of_mem _ (List.mem_append_left _ (List.mem_append_right _ h))) (by decide +kernel))) (goodIn_sub (fun _ h => List.mem_cons_of_mem _ (List.mem_append_right _ h)) (by decide +kernel))
set_option maxRecDepth 20000 in
theorem gL_map_X8_map : GoodIn wsL_map (wsV RL 66 RX8 yX8_map wsX8_map) := goodIn_app (goodIn_of _ (by decide +kernel)) ggL_map_X8_map
theorem dL_map_0 : decode cL_map 0 = .ok (.aload 5, 2) := by decide +kernel
theorem dL_map_2 : decode cL_map 2 = .ok (.iconst 0, 1) := by decide +kernel
theorem dL_map_3 : decode cL_map 3 = .ok (.aload_n 0, 1) := by decide +kernel
theorem dL_map_4 : decode cL_map 4 = .ok (.iload_n 1, 1) := by decide +kernel
theorem dL_map_5 : decode cL_map 5 = .ok (.iload_n 2, 1) := by decide +kernel
theorem dL_map_6 : decode cL_map 6 = .ok (.iload_n 3, 1) := by decide +kernel
theorem dL_map_7 : decode cL_map 7 = .ok (.iload 4, 2) := by decide +kernel
theorem dL_map_9 : decode cL_map 9 = .ok (.invokevirtual 66, 3) := by decide +kernel
theorem dL_map_12 : decode cL_map 12 = .ok (.i2l, 1) := by decide +kernel
theorem dL_map_13 : decode cL_map 13 = .ok (.lastore, 1) := by decide +kernel
theorem dL_map_14 : decode cL_map 14 = .ok (.goto 15, 3) := by decide +kernel
theorem dL_map_17 : decode cL_map 17 = .ok (.astore 6, 2) := by decide +kernel
theorem dL_map_19 : decode cL_map 19 = .ok (.iconst 1, 1) := by decide +kernel
theorem dL_map_20 : decode cL_map 20 = .ok (.ireturn, 1) := by decide +kernel
theorem dL_map_21 : decode cL_map 21 = .ok (.astore 6, 2) := by decide +kernel
theorem dL_map_23 : decode cL_map 23 = .ok (.iconst 2, 1) := by decide +kernel
theorem dL_map_24 : decode cL_map 24 = .ok (.ireturn, 1) := by decide +kernel
theorem dL_map_25 : decode cL_map 25 = .ok (.astore 6, 2) := by decide +kernel
theorem dL_map_27 : decode cL_map 27 = .ok (.iconst 3, 1) := by decide +kernel
theorem dL_map_28 : decode cL_map 28 = .ok (.ireturn, 1) := by decide +kernel
theorem dL_map_29 : decode cL_map 29 = .ok (.iconst 0, 1) := by decide +kernel
theorem dL_map_30 : decode cL_map 30 = .ok (.ireturn, 1) := by decide +kernel
set_option maxRecDepth 20000 in
theorem ggL_complement_X8_complement : GoodIn wsL_complement wsX8_complement := goodIn_ca (goodIn_ca (goodIn_r _ [7, 8, 9, 10, 11, 12, 13, 14, 6, 15, 16, 17, 18, 19, 20, 21, 22, 23, 24, 25, 26, 27, 28, 29, 30, 31, 32, 33, 34, 35, 36, 37, 38, 39, 40, 41, 42, 43, 44, 45, 46, 47, 48, 49, 50, 51, 52, 53, 54, 55, 56, 57, 58, 59, 60, 61, 62, 63, 64, 65, 66, 67, 68, 69, 70, 71, 72, 73, 74, 75, 76, 77, 78, 79, 80, 81, 82, 83, 84, 85, 86, 87, 88, 89, 90, 91, 92, 93, 94, 95, 96, 97, 98, 99, 100, 101, 102, 103, 104, 105, 106, 107, 108, 109, 110, 111, 112, 113, 114] (by decide +kernel) (by decide +kernel)) (goodIn_sub (fun _ h => List.mem_cons_of_mem _ (List.mem_append_left _ (List.mem_append_right _ h))) (by decide +kernel))) (goodIn_sub (fun _ h => List.mem_cons_of_mem _ (List.mem_append_right _ h)) (by decide +kernel))
set_option maxRecDepth 20000 in
theorem gL_complement_X8_complement : GoodIn wsL_complement (wsV RL 70 RX8 yX8_complement wsX8_complement) := goodIn_app (goodIn_of _ (by decide +kernel)) ggL_complement_X8_complement
theorem dL_complement_0 : decode cL_complement 0 = .ok (.aload_n 3, 1) := by decide +kernel
theorem dL_complement_1 : decode cL_complement 1 = .ok (.iconst 0, 1) := by decide +kernel
theorem dL_complement_2 : decode cL_complement 2 = .ok (.aload_n 0, 1) := by decide +kernel
theorem dL_complement_3 : decode cL_complement 3 = .ok (.iload_n 1, 1) := by decide +kernel
theorem dL_complement_4 : decode cL_complement 4 = .ok (.iload_n 2, 1) := by decide +kernel
theorem dL_complement_5 : decode cL_complement 5 = .ok (.invokevirtual 70, 3) := by decide +kernel
theorem dL_complement_8 : decode cL_complement 8 = .ok (.i2l, 1) := by decide +kernel
theorem dL_complement_9 : decode cL_complement 9 = .ok (.lastore, 1) := by decide +kernel
theorem dL_complement_10 : decode cL_complement 10 = .ok (.goto 11, 3) := by decide +kernel
theorem dL_complement_13 : decode cL_complement 13 = .ok (.astore 4, 2) := by decide +kernel
theorem dL_complement_15 : decode cL_complement 15 = .ok (.iconst 1, 1) := by decide +kernel
theorem dL_complement_16 : decode cL_complement 16 = .ok (.ireturn, 1) := by decide +kernel
theorem dL_complement_17 : decode cL_complement 17 = .ok (.astore 4, 2) := by decide +kernel
theorem dL_complement_19 : decode cL_complement 19 = .ok (.iconst 2, 1) := by decide +kernel
theorem dL_complement_20 : decode cL_complement 20 = .ok (.ireturn, 1) := by decide +kernel
theorem dL_complement_21 : decode cL_complement 21 = .ok (.iconst 0, 1) := by decide +kernel
theorem dL_complement_22 : decode cL_complement 22 = .ok (.ireturn, 1) := by decide +kernel
set_option maxRecDepth 20000 in
theorem ggL_reflect_X8_reflect : GoodIn wsL_reflect wsX8_reflect := goodIn_ca (goodIn_r _ [6, 7, 8, 9, 10, 5, 11, 12, 13, 14, 15, 16, 17, 18, 19, 20, 21, 22, 23, 24, 25, 26, 27, 28, 29, 30, 31, 32, 33, 34, 35, 36, 37, 38, 39, 40, 41, 42, 43, 44, 45, 46, 47, 48, 49, 50, 51, 52, 53, 54, 55, 56, 57, 58, 59, 60, 61, 62, 63, 64, 65, 66, 67, 68, 69, 70, 71, 72, 73, 74, 75, 76, 77, 78, 79, 80, 81, 82, 83] (by decide +kernel) (by decide +kernel)) (goodIn_sub (fun _ h => List.mem_cons_of_mem _ (List.mem_append_right _ h)) (by decide +kernel))
set_option maxRecDepth 20000 in
theorem gL_reflect_X8_reflect : GoodIn wsL_reflect (wsV RL 73 RX8 yX8_reflect wsX8_reflect) := goodIn_app (goodIn_of _ (by decide +kernel)) ggL_reflect_X8_reflect
theorem dL_reflect_0 : decode cL_reflect 0 = .ok (.aload_n 3, 1) := by decide +kernel
theorem dL_reflect_1 : decode cL_reflect 1 = .ok (.iconst 0, 1) := by decide +kernel
theorem dL_reflect_2 : decode cL_reflect 2 = .ok (.aload_n 0, 1) := by decide +kernel
theorem dL_reflect_3 : decode cL_reflect 3 = .ok (.iload_n 1, 1) := by decide +kernel
theorem dL_reflect_4 : decode cL_reflect 4 = .ok (.iload_n 2, 1) := by decide +kernel
theorem dL_reflect_5 : decode cL_reflect 5 = .ok (.invokevirtual 73, 3) := by decide +kernel
theorem dL_reflect_8 : decode cL_reflect 8 = .ok (.i2l, 1) := by decide +kernel
theorem dL_reflect_9 : decode cL_reflect 9 = .ok (.lastore, 1) := by decide +kernel
theorem dL_reflect_10 : decode cL_reflect 10 = .ok (.goto 7, 3) := by decide +kernel
theorem dL_reflect_13 : decode cL_reflect 13 = .ok (.astore 4, 2) := by decide +kernel
theorem dL_reflect_15 : decode cL_reflect 15 = .ok (.iconst 1, 1) := by decide +kernel
theorem dL_reflect_16 : decode cL_reflect 16 = .ok (.ireturn, 1) := by decide +kernel
theorem dL_reflect_17 : decode cL_reflect 17 = .ok (.iconst 0, 1) := by decide +kernel
theorem dL_reflect_18 : decode cL_reflect 18 = .ok (.ireturn, 1) := by decide +kernel
set_option maxRecDepth 20000 in
theorem ggL_multipliers_X8_multipliers : GoodIn wsL_multipliers wsX8_multipliers := goodIn_ca (goodIn_ca (goodIn_r _ [7, 8, 9, 10, 6, 11, 12, 13, 14, 15, 16, 17, 18, 19, 20, 21, 22, 23, 24, 25, 26, 27, 28, 29, 30, 31, 32, 33, 34, 35, 36, 37, 38, 39, 40, 41, 42, 43, 44, 45, 46, 47, 48, 49, 50, 51, 52, 53, 54, 55, 56, 57, 58, 59, 60, 61, 62, 63, 64, 65, 66, 67, 68, 69, 70, 71, 72, 73, 74, 75, 76, 77, 78, 79, 80, 81, 82, 83, 84, 85, 86, 87, 88, 89, 90, 91, 92, 93, 94, 95, 96, 97, 98, 99, 100, 101, 102, 103, 104, 105, 106, 107, 108, 109, 110, 111, 112, 113, 114, 115, 116, 117, 118, 119, 120, 121, 122, 123, 124, 125, 126, 127, 128, 129, 130, 131] (by decide +kernel) (by decide +kernel)) (goodIn_sub (fun _ h => List.mem_cons_of_mem _ (List.mem_append_left _ (List.mem_append_right _ h))) (by decide +kernel))) (goodIn_sub (fun _ h => List.mem_cons_of_mem _ (List.mem_append_right _ h)) (by decide +kernel))
set_option maxRecDepth 20000 in
theorem gL_multipliers_X8_multipliers : GoodIn wsL_multipliers (wsV RL 76 RX8 yX8_multipliers wsX8_multipliers) := goodIn_app (goodIn_of _ (by decide +kernel)) ggL_multipliers_X8_multipliers
theorem dL_multipliers_0 : decode cL_multipliers 0 = .ok (.aload_n 2, 1) := by decide +kernel
theorem dL_multipliers_1 : decode cL_multipliers 1 = .ok (.iconst 0, 1) := by decide +kernel
theorem dL_multipliers_2 : decode cL_multipliers 2 = .ok (.aload_n 0, 1) := by decide +kernel
theorem dL_multipliers_3 : decode cL_multipliers 3 = .ok (.iload_n 1, 1) := by decide +kernel
theorem dL_multipliers_4 : decode cL_multipliers 4 = .ok (.invokevirtual 76, 3) := by decide +kernel
theorem dL_multipliers_7 : decode cL_multipliers 7 = .ok (.i2l, 1) := by decide +kernel
theorem dL_multipliers_8 : decode cL_multipliers 8 = .ok (.lastore, 1) := by decide +kernel
theorem dL_multipliers_9 : decode cL_multipliers 9 = .ok (.goto 9, 3) := by decide +kernel
theorem dL_multipliers_12 : decode cL_multipliers 12 = .ok (.astore_n 3, 1) := by decide +kernel
theorem dL_multipliers_13 : decode cL_multipliers 13 = .ok (.iconst 1, 1) := by decide +kernel
theorem dL_multipliers_14 : decode cL_multipliers 14 = .ok (.ireturn, 1) := by decide +kernel
theorem dL_multipliers_15 : decode cL_multipliers 15 = .ok (.astore_n 3, 1) := by decide +kernel
theorem dL_multipliers_16 : decode cL_multipliers 16 = .ok (.iconst 2, 1) := by decide +kernel
theorem dL_multipliers_17 : decode cL_multipliers 17 = .ok (.ireturn, 1) := by decide +kernel
theorem dL_multipliers_18 : decode cL_multipliers 18 = .ok (.iconst 0, 1) := by decide +kernel
theorem dL_multipliers_19 : decode cL_multipliers 19 = .ok (.ireturn, 1) := by decide +kernel
set_option maxRecDepth 20000 in
theorem ggL_canonical_X8_canonical : GoodIn wsL_canonical wsX8_canonical := goodIn_ca (goodIn_ca (goodIn_r _ [7, 8, 9, 10, 11, 12, 13, 6, 14, 15, 16, 17, 18, 19, 20, 21, 22, 23, 24, 25, 26, 27, 28, 29, 30, 31, 32, 33, 34, 35, 36, 37, 38, 39, 40, 41, 42, 43, 44, 45, 46, 47, 48, 49, 50, 51, 52, 53, 54, 55, 56, 57, 58, 59, 60, 61, 62, 63, 64, 65, 66, 67, 68, 69, 70, 71, 72, 73, 74, 75, 76, 77, 78, 79, 80, 81, 82, 83, 84, 85, 86, 87, 88, 89, 90, 91, 92, 93, 94, 95, 96, 97, 98, 99, 100, 101, 102, 103, 104, 105, 106, 107, 108, 109, 110, 111, 112, 113, 114, 115, 116, 117, 118, 119, 120, 121, 122, 123, 124, 125, 126, 127, 128, 129, 130, 131, 132, 133, 134, 135, 136, 137, 138, 139, 140, 141, 142, 143, 144, 145, 146, 147, 148, 149, 150, 151, 152, 153, 154, 155, 156, 157, 158, 159, 160, 161, 162, 163, 164, 165, 166, 167, 168, 169, 170, 171, 172, 173, 174, 175, 176, 177, 178, 179, 180, 181, 182, 183, 184, 185, 186, 187, 188, 189, 190, 191, 192, 193, 194, 195, 196, 197, 198, 199, 200, 201, 202, 203, 204, 205, 206, 207, 208, 209] (by decide +kernel) (by decide +kernel)) (goodIn_sub (fun _ h => List.mem_cons_of_mem _ (List.mem_append_left _ (List.mem_append_right _ h))) (by decide +kernel))) (goodIn_sub (fun _ h => List.mem_cons_of_mem _ (List.mem_append_right _ h)) (by decide +kernel))
set_option maxRecDepth 20000 in
theorem gL_canonical_X8_canonical : GoodIn wsL_canonical (wsV RL 79 RX8 yX8_canonical wsX8_canonical) := goodIn_app (goodIn_of _ (by decide +kernel)) ggL_canonical_X8_canonical
theorem dL_canonical_0 : decode cL_canonical 0 = .ok (.aload_n 3, 1) := by decide +kernel
theorem dL_canonical_1 : decode cL_canonical 1 = .ok (.iconst 0, 1) := by decide +kernel
theorem dL_canonical_2 : decode cL_canonical 2 = .ok (.aload_n 0, 1) := by decide +kernel
theorem dL_canonical_3 : decode cL_canonical 3 = .ok (.iload_n 1, 1) := by decide +kernel
theorem dL_canonical_4 : decode cL_canonical 4 = .ok (.iload_n 2, 1) := by decide +kernel
theorem dL_canonical_5 : decode cL_canonical 5 = .ok (.invokevirtual 79, 3) := by decide +kernel
theorem dL_canonical_8 : decode cL_canonical 8 = .ok (.i2l, 1) := by decide +kernel
theorem dL_canonical_9 : decode cL_canonical 9 = .ok (.lastore, 1) := by decide +kernel
theorem dL_canonical_10 : decode cL_canonical 10 = .ok (.goto 11, 3) := by decide +kernel
theorem dL_canonical_13 : decode cL_canonical 13 = .ok (.astore 4, 2) := by decide +kernel
theorem dL_canonical_15 : decode cL_canonical 15 = .ok (.iconst 1, 1) := by decide +kernel
theorem dL_canonical_16 : decode cL_canonical 16 = .ok (.ireturn, 1) := by decide +kernel
theorem dL_canonical_17 : decode cL_canonical 17 = .ok (.astore 4, 2) := by decide +kernel
theorem dL_canonical_19 : decode cL_canonical 19 = .ok (.iconst 2, 1) := by decide +kernel
theorem dL_canonical_20 : decode cL_canonical 20 = .ok (.ireturn, 1) := by decide +kernel
theorem dL_canonical_21 : decode cL_canonical 21 = .ok (.iconst 0, 1) := by decide +kernel
theorem dL_canonical_22 : decode cL_canonical 22 = .ok (.ireturn, 1) := by decide +kernel
set_option maxRecDepth 20000 in
theorem ggL_erdosTuran_X8_erdosTuran : GoodIn wsL_erdosTuran wsX8_erdosTuran := goodIn_ca (goodIn_ca (goodIn_r _ [7, 8, 9, 10, 11, 6, 12, 13, 14, 15, 16, 17, 18, 19, 20, 21, 22, 23, 24, 25, 26, 27, 28, 29, 30, 31, 32, 33, 34, 35, 36, 37, 38, 39, 40, 41, 42, 43, 44, 45, 46, 47, 48, 49, 50, 51, 52, 53, 54, 55, 56, 57, 58, 59, 60, 61, 62, 63, 64, 65, 66, 67, 68, 69, 70, 71, 72, 73, 74, 75, 76, 77, 78, 79, 80, 81, 82, 83, 84, 85, 86, 87, 88, 89, 90, 91, 92, 93, 94, 95, 96, 97, 98] (by decide +kernel) (by decide +kernel)) (goodIn_sub (fun _ h => List.mem_cons_of_mem _ (List.mem_append_left _ (List.mem_append_right _ h))) (by decide +kernel))) (goodIn_sub (fun _ h => List.mem_cons_of_mem _ (List.mem_append_right _ h)) (by decide +kernel))
set_option maxRecDepth 20000 in
theorem gL_erdosTuran_X8_erdosTuran : GoodIn wsL_erdosTuran (wsV RL 82 RX8 yX8_erdosTuran wsX8_erdosTuran) := goodIn_app (goodIn_of _ (by decide +kernel)) ggL_erdosTuran_X8_erdosTuran
theorem dL_erdosTuran_0 : decode cL_erdosTuran 0 = .ok (.aload_n 3, 1) := by decide +kernel
theorem dL_erdosTuran_1 : decode cL_erdosTuran 1 = .ok (.iconst 0, 1) := by decide +kernel
theorem dL_erdosTuran_2 : decode cL_erdosTuran 2 = .ok (.aload_n 0, 1) := by decide +kernel
theorem dL_erdosTuran_3 : decode cL_erdosTuran 3 = .ok (.iload_n 1, 1) := by decide +kernel
theorem dL_erdosTuran_4 : decode cL_erdosTuran 4 = .ok (.iload_n 2, 1) := by decide +kernel
theorem dL_erdosTuran_5 : decode cL_erdosTuran 5 = .ok (.invokevirtual 82, 3) := by decide +kernel
theorem dL_erdosTuran_8 : decode cL_erdosTuran 8 = .ok (.i2l, 1) := by decide +kernel
theorem dL_erdosTuran_9 : decode cL_erdosTuran 9 = .ok (.lastore, 1) := by decide +kernel
theorem dL_erdosTuran_10 : decode cL_erdosTuran 10 = .ok (.goto 11, 3) := by decide +kernel
theorem dL_erdosTuran_13 : decode cL_erdosTuran 13 = .ok (.astore 4, 2) := by decide +kernel
theorem dL_erdosTuran_15 : decode cL_erdosTuran 15 = .ok (.iconst 1, 1) := by decide +kernel
theorem dL_erdosTuran_16 : decode cL_erdosTuran 16 = .ok (.ireturn, 1) := by decide +kernel
theorem dL_erdosTuran_17 : decode cL_erdosTuran 17 = .ok (.astore 4, 2) := by decide +kernel
theorem dL_erdosTuran_19 : decode cL_erdosTuran 19 = .ok (.iconst 2, 1) := by decide +kernel
theorem dL_erdosTuran_20 : decode cL_erdosTuran 20 = .ok (.ireturn, 1) := by decide +kernel
theorem dL_erdosTuran_21 : decode cL_erdosTuran 21 = .ok (.iconst 0, 1) := by decide +kernel
theorem dL_erdosTuran_22 : decode cL_erdosTuran 22 = .ok (.ireturn, 1) := by decide +kernel
set_option maxRecDepth 20000 in
theorem ggL_ruzsa_X8_ruzsa : GoodIn wsL_ruzsa wsX8_ruzsa := goodIn_ca (goodIn_ca (goodIn_r _ [7, 8, 9, 10, 11, 12, 13, 6, 14, 15, 16, 17, 18, 19, 20, 21, 22, 23, 24, 25, 26, 27, 28, 29, 30, 31, 32, 33, 34, 35, 36, 37, 38, 39, 40, 41, 42, 43, 44, 45, 46, 47, 48, 49, 50, 51, 52, 53, 54, 55, 56, 57, 58, 59, 60, 61, 62, 63, 64, 65, 66, 67, 68, 69, 70, 71, 72, 73, 74, 75, 76, 77, 78, 79, 80, 81, 82, 83, 84, 85, 86, 87, 88, 89, 90, 91, 92, 93, 94, 95, 96, 97, 98, 99, 100, 101, 102, 103, 104, 105, 106, 107, 108, 109, 110, 111, 112, 113, 114, 115, 116, 117, 118, 119, 120, 121, 122, 123, 124, 125, 126, 127, 128, 129, 130] (by decide +kernel) (by decide +kernel)) (goodIn_sub (fun _ h => List.mem_cons_of_mem _ (List.mem_append_left _ (List.mem_append_right _ h))) (by decide +kernel))) (goodIn_sub (fun _ h => List.mem_cons_of_mem _ (List.mem_append_right _ h)) (by decide +kernel))
set_option maxRecDepth 20000 in
theorem gL_ruzsa_X8_ruzsa : GoodIn wsL_ruzsa (wsV RL 85 RX8 yX8_ruzsa wsX8_ruzsa) := goodIn_app (goodIn_of _ (by decide +kernel)) ggL_ruzsa_X8_ruzsa
theorem dL_ruzsa_0 : decode cL_ruzsa 0 = .ok (.aload 4, 2) := by decide +kernel
theorem dL_ruzsa_2 : decode cL_ruzsa 2 = .ok (.iconst 0, 1) := by decide +kernel
theorem dL_ruzsa_3 : decode cL_ruzsa 3 = .ok (.aload_n 0, 1) := by decide +kernel
theorem dL_ruzsa_4 : decode cL_ruzsa 4 = .ok (.iload_n 1, 1) := by decide +kernel
theorem dL_ruzsa_5 : decode cL_ruzsa 5 = .ok (.iload_n 2, 1) := by decide +kernel
theorem dL_ruzsa_6 : decode cL_ruzsa 6 = .ok (.iload_n 3, 1) := by decide +kernel
theorem dL_ruzsa_7 : decode cL_ruzsa 7 = .ok (.invokevirtual 85, 3) := by decide +kernel
theorem dL_ruzsa_10 : decode cL_ruzsa 10 = .ok (.i2l, 1) := by decide +kernel
theorem dL_ruzsa_11 : decode cL_ruzsa 11 = .ok (.lastore, 1) := by decide +kernel
theorem dL_ruzsa_12 : decode cL_ruzsa 12 = .ok (.goto 11, 3) := by decide +kernel
theorem dL_ruzsa_15 : decode cL_ruzsa 15 = .ok (.astore 5, 2) := by decide +kernel
theorem dL_ruzsa_17 : decode cL_ruzsa 17 = .ok (.iconst 1, 1) := by decide +kernel
theorem dL_ruzsa_18 : decode cL_ruzsa 18 = .ok (.ireturn, 1) := by decide +kernel
theorem dL_ruzsa_19 : decode cL_ruzsa 19 = .ok (.astore 5, 2) := by decide +kernel
theorem dL_ruzsa_21 : decode cL_ruzsa 21 = .ok (.iconst 2, 1) := by decide +kernel
theorem dL_ruzsa_22 : decode cL_ruzsa 22 = .ok (.ireturn, 1) := by decide +kernel
theorem dL_ruzsa_23 : decode cL_ruzsa 23 = .ok (.iconst 0, 1) := by decide +kernel
theorem dL_ruzsa_24 : decode cL_ruzsa 24 = .ok (.ireturn, 1) := by decide +kernel
set_option maxRecDepth 20000 in
theorem ggL_residues_X8_residues : GoodIn wsL_residues wsX8_residues := goodIn_ca (goodIn_ca (goodIn_r _ [7, 8, 9, 10, 11, 6, 12, 13, 14, 15, 16, 17, 18, 19, 20, 21, 22, 23, 24, 25, 26, 27, 28, 29, 30, 31, 32, 33, 34, 35, 36, 37, 38, 39, 40, 41, 42, 43, 44, 45, 46, 47, 48, 49, 50, 51, 52, 53, 54, 55, 56, 57, 58, 59, 60, 61, 62, 63, 64, 65, 66, 67, 68, 69, 70, 71, 72, 73, 74, 75, 76, 77, 78, 79, 80, 81, 82, 83, 84, 85, 86, 87, 88, 89, 90, 91, 92, 93, 94, 95, 96, 97, 98, 99, 100, 101, 102, 103, 104, 105, 106, 107, 108, 109, 110, 111, 112, 113, 114, 115] (by decide +kernel) (by decide +kernel)) (goodIn_sub (fun _ h => List.mem_cons_of_mem _ (List.mem_append_left _ (List.mem_append_right _ h))) (by decide +kernel))) (goodIn_sub (fun _ h => List.mem_cons_of_mem _ (List.mem_append_right _ h)) (by decide +kernel))
set_option maxRecDepth 20000 in
theorem gL_residues_X8_residues : GoodIn wsL_residues (wsV RL 89 RX8 yX8_residues wsX8_residues) := goodIn_app (goodIn_of _ (by decide +kernel)) ggL_residues_X8_residues
theorem dL_residues_0 : decode cL_residues 0 = .ok (.aload_n 3, 1) := by decide +kernel
theorem dL_residues_1 : decode cL_residues 1 = .ok (.iconst 0, 1) := by decide +kernel
theorem dL_residues_2 : decode cL_residues 2 = .ok (.aload_n 0, 1) := by decide +kernel
theorem dL_residues_3 : decode cL_residues 3 = .ok (.iload_n 1, 1) := by decide +kernel
theorem dL_residues_4 : decode cL_residues 4 = .ok (.iload_n 2, 1) := by decide +kernel
theorem dL_residues_5 : decode cL_residues 5 = .ok (.invokevirtual 89, 3) := by decide +kernel
theorem dL_residues_8 : decode cL_residues 8 = .ok (.i2l, 1) := by decide +kernel
theorem dL_residues_9 : decode cL_residues 9 = .ok (.lastore, 1) := by decide +kernel
theorem dL_residues_10 : decode cL_residues 10 = .ok (.goto 11, 3) := by decide +kernel
theorem dL_residues_13 : decode cL_residues 13 = .ok (.astore 4, 2) := by decide +kernel
theorem dL_residues_15 : decode cL_residues 15 = .ok (.iconst 1, 1) := by decide +kernel
theorem dL_residues_16 : decode cL_residues 16 = .ok (.ireturn, 1) := by decide +kernel
theorem dL_residues_17 : decode cL_residues 17 = .ok (.astore 4, 2) := by decide +kernel
theorem dL_residues_19 : decode cL_residues 19 = .ok (.iconst 2, 1) := by decide +kernel
theorem dL_residues_20 : decode cL_residues 20 = .ok (.ireturn, 1) := by decide +kernel
theorem dL_residues_21 : decode cL_residues 21 = .ok (.iconst 0, 1) := by decide +kernel
theorem dL_residues_22 : decode cL_residues 22 = .ok (.ireturn, 1) := by decide +kernel
set_option maxRecDepth 20000 in
theorem ggL_extend_X8_extend : GoodIn wsL_extend wsX8_extend := goodIn_ca (goodIn_ca (goodIn_ca (goodIn_r _ [8, 9, 10, 11, 12, 13, 14, 15, 16, 17, 7, 18, 19, 20, 21, 22, 23, 24, 25, 26, 27, 28, 29, 30, 31, 32, 33, 34, 35, 36, 37, 38, 39, 40, 41, 42, 43, 44, 45, 46, 47, 48, 49, 50, 51, 52, 53, 54, 55, 56, 57, 58, 59, 60, 61, 62, 63, 64, 65, 66, 67, 68, 69, 70, 71, 72, 73, 74, 75, 76, 77, 78, 79, 80, 81, 82, 83, 84, 85, 86, 87, 88, 89, 90, 91, 92, 93, 94, 95, 96, 97, 98, 99, 100, 101, 102, 103, 104, 105, 106, 107, 108, 109, 110, 111, 112, 113, 114, 115, 116, 117, 118, 119, 120, 121, 122, 123, 124, 125, 126, 127, 128, 129, 130, 131] (by decide +kernel) (by decide +kernel)) (goodIn_sub (fun _ h => List.mem_cons_of_mem _ (List.mem_append_left _ (List.mem_append_left _ (List.mem_append_right _ h)))) (by decide +kernel))) (goodIn_sub (fun _ h => List.mem_cons_of_mem _ (List.mem_append_left _ (List.mem_append_right _ h))) (by decide +kernel))) (goodIn_sub (fun _ h => List.mem_cons_of_mem _ (List.mem_append_right _ h)) (by decide +kernel))
set_option maxRecDepth 20000 in
theorem gL_extend_X8_extend : GoodIn wsL_extend (wsV RL 92 RX8 yX8_extend wsX8_extend) := goodIn_app (goodIn_of _ (by decide +kernel)) ggL_extend_X8_extend
theorem dL_extend_0 : decode cL_extend 0 = .ok (.aload_n 3, 1) := by decide +kernel
theorem dL_extend_1 : decode cL_extend 1 = .ok (.iconst 0, 1) := by decide +kernel
theorem dL_extend_2 : decode cL_extend 2 = .ok (.aload_n 0, 1) := by decide +kernel
theorem dL_extend_3 : decode cL_extend 3 = .ok (.iload_n 1, 1) := by decide +kernel
theorem dL_extend_4 : decode cL_extend 4 = .ok (.iload_n 2, 1) := by decide +kernel
theorem dL_extend_5 : decode cL_extend 5 = .ok (.invokevirtual 92, 3) := by decide +kernel
theorem dL_extend_8 : decode cL_extend 8 = .ok (.i2l, 1) := by decide +kernel
theorem dL_extend_9 : decode cL_extend 9 = .ok (.lastore, 1) := by decide +kernel
theorem dL_extend_10 : decode cL_extend 10 = .ok (.goto 15, 3) := by decide +kernel
theorem dL_extend_13 : decode cL_extend 13 = .ok (.astore 4, 2) := by decide +kernel
theorem dL_extend_15 : decode cL_extend 15 = .ok (.iconst 1, 1) := by decide +kernel
theorem dL_extend_16 : decode cL_extend 16 = .ok (.ireturn, 1) := by decide +kernel
theorem dL_extend_17 : decode cL_extend 17 = .ok (.astore 4, 2) := by decide +kernel
theorem dL_extend_19 : decode cL_extend 19 = .ok (.iconst 2, 1) := by decide +kernel
theorem dL_extend_20 : decode cL_extend 20 = .ok (.ireturn, 1) := by decide +kernel
theorem dL_extend_21 : decode cL_extend 21 = .ok (.astore 4, 2) := by decide +kernel
theorem dL_extend_23 : decode cL_extend 23 = .ok (.iconst 3, 1) := by decide +kernel
theorem dL_extend_24 : decode cL_extend 24 = .ok (.ireturn, 1) := by decide +kernel
theorem dL_extend_25 : decode cL_extend 25 = .ok (.iconst 0, 1) := by decide +kernel
theorem dL_extend_26 : decode cL_extend 26 = .ok (.ireturn, 1) := by decide +kernel
set_option maxRecDepth 20000 in
theorem ggL_optimal_X8_optimal : GoodIn wsL_optimal wsX8_optimal := goodIn_ca (goodIn_ca (goodIn_r _ [7, 8, 9, 10, 11, 12, 13, 6, 14, 15, 16, 17, 18, 19, 20, 21, 22, 23, 24, 25, 26, 27, 28, 29, 30, 31, 32, 33, 34, 35, 36, 37, 38, 39, 40, 41, 42, 43, 44, 45, 46, 47, 48, 49, 50, 51, 52, 53, 54, 55, 56, 57, 58, 59, 60, 61, 62, 63, 64, 65, 66, 67, 68, 69, 70, 71, 72, 73, 74, 75, 76, 77, 78, 79, 80, 81, 82, 83, 84, 85, 86, 87, 88, 89, 90, 91, 92, 93, 94, 95, 96, 97, 98, 99, 100, 101] (by decide +kernel) (by decide +kernel)) (goodIn_sub (fun _ h => List.mem_cons_of_mem _ (List.mem_append_left _ (List.mem_append_right _ h))) (by decide +kernel))) (goodIn_sub (fun _ h => List.mem_cons_of_mem _ (List.mem_append_right _ h)) (by decide +kernel))
set_option maxRecDepth 20000 in
theorem gL_optimal_X8_optimal : GoodIn wsL_optimal (wsV RL 95 RX8 yX8_optimal wsX8_optimal) := goodIn_app (goodIn_of _ (by decide +kernel)) ggL_optimal_X8_optimal
theorem dL_optimal_0 : decode cL_optimal 0 = .ok (.aload_n 3, 1) := by decide +kernel
theorem dL_optimal_1 : decode cL_optimal 1 = .ok (.iconst 0, 1) := by decide +kernel
theorem dL_optimal_2 : decode cL_optimal 2 = .ok (.aload_n 0, 1) := by decide +kernel
theorem dL_optimal_3 : decode cL_optimal 3 = .ok (.iload_n 1, 1) := by decide +kernel
theorem dL_optimal_4 : decode cL_optimal 4 = .ok (.iload_n 2, 1) := by decide +kernel
theorem dL_optimal_5 : decode cL_optimal 5 = .ok (.invokevirtual 95, 3) := by decide +kernel
theorem dL_optimal_8 : decode cL_optimal 8 = .ok (.i2l, 1) := by decide +kernel
theorem dL_optimal_9 : decode cL_optimal 9 = .ok (.lastore, 1) := by decide +kernel
theorem dL_optimal_10 : decode cL_optimal 10 = .ok (.goto 11, 3) := by decide +kernel
theorem dL_optimal_13 : decode cL_optimal 13 = .ok (.astore 4, 2) := by decide +kernel
theorem dL_optimal_15 : decode cL_optimal 15 = .ok (.iconst 1, 1) := by decide +kernel
theorem dL_optimal_16 : decode cL_optimal 16 = .ok (.ireturn, 1) := by decide +kernel
theorem dL_optimal_17 : decode cL_optimal 17 = .ok (.astore 4, 2) := by decide +kernel
theorem dL_optimal_19 : decode cL_optimal 19 = .ok (.iconst 2, 1) := by decide +kernel
theorem dL_optimal_20 : decode cL_optimal 20 = .ok (.ireturn, 1) := by decide +kernel
theorem dL_optimal_21 : decode cL_optimal 21 = .ok (.iconst 0, 1) := by decide +kernel
theorem dL_optimal_22 : decode cL_optimal 22 = .ok (.ireturn, 1) := by decide +kernel
set_option maxRecDepth 20000 in
theorem ggL_sparse_X8_sparse : GoodIn wsL_sparse wsX8_sparse := goodIn_ca (goodIn_ca (goodIn_r _ [7, 8, 9, 10, 11, 12, 13, 6, 14, 15, 16, 17, 18, 19, 20, 21, 22, 23, 24, 25, 26, 27, 28, 29, 30, 31, 32, 33, 34, 35, 36, 37, 38, 39, 40, 41, 42, 43, 44, 45, 46, 47, 48, 49, 50, 51, 52, 53, 54, 55, 56, 57, 58, 59, 60, 61, 62, 63, 64, 65, 66, 67, 68, 69, 70, 71, 72, 73, 74, 75, 76, 77, 78, 79, 80, 81, 82, 83, 84, 85, 86, 87, 88, 89, 90, 91, 92, 93, 94, 95, 96, 97, 98, 99, 100, 101, 102, 103, 104, 105] (by decide +kernel) (by decide +kernel)) (goodIn_sub (fun _ h => List.mem_cons_of_mem _ (List.mem_append_left _ (List.mem_append_right _ h))) (by decide +kernel))) (goodIn_sub (fun _ h => List.mem_cons_of_mem _ (List.mem_append_right _ h)) (by decide +kernel))
set_option maxRecDepth 20000 in
theorem gL_sparse_X8_sparse : GoodIn wsL_sparse (wsV RL 98 RX8 yX8_sparse wsX8_sparse) := goodIn_app (goodIn_of _ (by decide +kernel)) ggL_sparse_X8_sparse
theorem dL_sparse_0 : decode cL_sparse 0 = .ok (.aload_n 3, 1) := by decide +kernel
theorem dL_sparse_1 : decode cL_sparse 1 = .ok (.iconst 0, 1) := by decide +kernel
theorem dL_sparse_2 : decode cL_sparse 2 = .ok (.aload_n 0, 1) := by decide +kernel
theorem dL_sparse_3 : decode cL_sparse 3 = .ok (.iload_n 1, 1) := by decide +kernel
theorem dL_sparse_4 : decode cL_sparse 4 = .ok (.iload_n 2, 1) := by decide +kernel
theorem dL_sparse_5 : decode cL_sparse 5 = .ok (.invokevirtual 98, 3) := by decide +kernel
theorem dL_sparse_8 : decode cL_sparse 8 = .ok (.i2l, 1) := by decide +kernel
theorem dL_sparse_9 : decode cL_sparse 9 = .ok (.lastore, 1) := by decide +kernel
theorem dL_sparse_10 : decode cL_sparse 10 = .ok (.goto 11, 3) := by decide +kernel
theorem dL_sparse_13 : decode cL_sparse 13 = .ok (.astore 4, 2) := by decide +kernel
theorem dL_sparse_15 : decode cL_sparse 15 = .ok (.iconst 1, 1) := by decide +kernel
theorem dL_sparse_16 : decode cL_sparse 16 = .ok (.ireturn, 1) := by decide +kernel
theorem dL_sparse_17 : decode cL_sparse 17 = .ok (.astore 4, 2) := by decide +kernel
theorem dL_sparse_19 : decode cL_sparse 19 = .ok (.iconst 2, 1) := by decide +kernel
theorem dL_sparse_20 : decode cL_sparse 20 = .ok (.ireturn, 1) := by decide +kernel
theorem dL_sparse_21 : decode cL_sparse 21 = .ok (.iconst 0, 1) := by decide +kernel
theorem dL_sparse_22 : decode cL_sparse 22 = .ok (.ireturn, 1) := by decide +kernel
set_option maxRecDepth 20000 in
theorem ggL_firstDifferenceSet_X8_firstDifferenceSet : GoodIn wsL_firstDifferenceSet wsX8_firstDifferenceSet := goodIn_ca (goodIn_ca (goodIn_r _ [7, 8, 9, 10, 11, 6, 12, 13, 14, 15, 16, 17, 18, 19, 20, 21, 22, 23, 24, 25, 26, 27, 28, 29, 30, 31, 32, 33, 34, 35, 36, 37, 38, 39, 40, 41, 42, 43, 44, 45, 46, 47, 48, 49, 50, 51, 52, 53, 54, 55, 56, 57, 58, 59, 60, 61, 62, 63, 64, 65, 66, 67, 68, 69, 70, 71, 72, 73, 74, 75, 76, 77, 78, 79, 80, 81, 82, 83, 84, 85, 86, 87, 88, 89, 90, 91, 92, 93, 94, 95, 96, 97, 98, 99, 100, 101, 102, 103, 104, 105, 106, 107, 108, 109, 110, 111, 112, 113, 114, 115, 116, 117, 118, 119, 120, 121, 122, 123, 124, 125, 126] (by decide +kernel) (by decide +kernel)) (goodIn_sub (fun _ h => List.mem_cons_of_mem _ (List.mem_append_left _ (List.mem_append_right _ h))) (by decide +kernel))) (goodIn_sub (fun _ h => List.mem_cons_of_mem _ (List.mem_append_right _ h)) (by decide +kernel))
set_option maxRecDepth 20000 in
theorem gL_firstDifferenceSet_X8_firstDifferenceSet : GoodIn wsL_firstDifferenceSet (wsV RL 101 RX8 yX8_firstDifferenceSet wsX8_firstDifferenceSet) := goodIn_app (goodIn_of _ (by decide +kernel)) ggL_firstDifferenceSet_X8_firstDifferenceSet
theorem dL_firstDifferenceSet_0 : decode cL_firstDifferenceSet 0 = .ok (.aload 4, 2) := by decide +kernel
theorem dL_firstDifferenceSet_2 : decode cL_firstDifferenceSet 2 = .ok (.iconst 0, 1) := by decide +kernel
theorem dL_firstDifferenceSet_3 : decode cL_firstDifferenceSet 3 = .ok (.aload_n 0, 1) := by decide +kernel
theorem dL_firstDifferenceSet_4 : decode cL_firstDifferenceSet 4 = .ok (.iload_n 1, 1) := by decide +kernel
theorem dL_firstDifferenceSet_5 : decode cL_firstDifferenceSet 5 = .ok (.iload_n 2, 1) := by decide +kernel
theorem dL_firstDifferenceSet_6 : decode cL_firstDifferenceSet 6 = .ok (.iload_n 3, 1) := by decide +kernel
theorem dL_firstDifferenceSet_7 : decode cL_firstDifferenceSet 7 = .ok (.invokevirtual 101, 3) := by decide +kernel
theorem dL_firstDifferenceSet_10 : decode cL_firstDifferenceSet 10 = .ok (.i2l, 1) := by decide +kernel
theorem dL_firstDifferenceSet_11 : decode cL_firstDifferenceSet 11 = .ok (.lastore, 1) := by decide +kernel
theorem dL_firstDifferenceSet_12 : decode cL_firstDifferenceSet 12 = .ok (.goto 11, 3) := by decide +kernel
theorem dL_firstDifferenceSet_15 : decode cL_firstDifferenceSet 15 = .ok (.astore 5, 2) := by decide +kernel
theorem dL_firstDifferenceSet_17 : decode cL_firstDifferenceSet 17 = .ok (.iconst 1, 1) := by decide +kernel
theorem dL_firstDifferenceSet_18 : decode cL_firstDifferenceSet 18 = .ok (.ireturn, 1) := by decide +kernel
theorem dL_firstDifferenceSet_19 : decode cL_firstDifferenceSet 19 = .ok (.astore 5, 2) := by decide +kernel
theorem dL_firstDifferenceSet_21 : decode cL_firstDifferenceSet 21 = .ok (.iconst 2, 1) := by decide +kernel
theorem dL_firstDifferenceSet_22 : decode cL_firstDifferenceSet 22 = .ok (.ireturn, 1) := by decide +kernel
theorem dL_firstDifferenceSet_23 : decode cL_firstDifferenceSet 23 = .ok (.iconst 0, 1) := by decide +kernel
theorem dL_firstDifferenceSet_24 : decode cL_firstDifferenceSet 24 = .ok (.ireturn, 1) := by decide +kernel
set_option maxRecDepth 20000 in
theorem ggL_undo_X8_undo : GoodIn wsL_undo wsX8_undo := goodIn_ca (goodIn_r _ [6, 7, 8, 9, 10, 11, 12, 13, 14, 15, 16, 17, 18, 19, 20, 21, 22, 23, 24, 25, 26, 27, 28, 29, 30, 31, 32, 33, 34, 35, 36, 37, 38, 39, 40, 41, 42, 43, 44, 45, 46, 47, 48, 49, 50, 51, 52, 53] (by decide +kernel) (by decide +kernel)) (goodIn_sub (fun _ h => List.mem_cons_of_mem _ (List.mem_append_right _ h)) (by decide +kernel))
set_option maxRecDepth 20000 in
theorem gL_undo_X8_undo : GoodIn wsL_undo (wsV RL 104 RX8 yX8_undo wsX8_undo) := goodIn_app (goodIn_of _ (by decide +kernel)) ggL_undo_X8_undo
theorem dL_undo_0 : decode cL_undo 0 = .ok (.aload_n 1, 1) := by decide +kernel
theorem dL_undo_1 : decode cL_undo 1 = .ok (.iconst 0, 1) := by decide +kernel
theorem dL_undo_2 : decode cL_undo 2 = .ok (.aload_n 0, 1) := by decide +kernel
theorem dL_undo_3 : decode cL_undo 3 = .ok (.invokevirtual 104, 3) := by decide +kernel
theorem dL_undo_6 : decode cL_undo 6 = .ok (.i2l, 1) := by decide +kernel
theorem dL_undo_7 : decode cL_undo 7 = .ok (.lastore, 1) := by decide +kernel
theorem dL_undo_8 : decode cL_undo 8 = .ok (.goto 6, 3) := by decide +kernel
theorem dL_undo_11 : decode cL_undo 11 = .ok (.astore_n 2, 1) := by decide +kernel
theorem dL_undo_12 : decode cL_undo 12 = .ok (.iconst 1, 1) := by decide +kernel
theorem dL_undo_13 : decode cL_undo 13 = .ok (.ireturn, 1) := by decide +kernel
theorem dL_undo_14 : decode cL_undo 14 = .ok (.iconst 0, 1) := by decide +kernel
theorem dL_undo_15 : decode cL_undo 15 = .ok (.ireturn, 1) := by decide +kernel
set_option maxRecDepth 20000 in
theorem ggL_law_X8_init : GoodIn wsL_law wsX8_init := goodIn_r _ [9, 10, 11, 12, 13, 14, 15, 16, 17, 18, 19, 20, 21, 22, 23, 24, 25, 26, 27, 28, 29, 30, 31, 32, 33, 34, 35, 36, 37, 38, 39, 40, 41, 42, 43, 44, 45, 46, 47, 48, 49, 50, 51, 52, 53, 54, 55, 56, 57, 58, 59, 60, 61, 62, 63, 64, 65, 66, 67, 68, 69, 70, 71, 72, 73, 74, 75, 76, 6, 77, 78, 79, 80, 81, 82, 83, 84, 85, 86, 87, 88, 89, 90, 91, 92, 93, 94, 974, 975, 954, 955, 956, 957, 958, 959, 960, 961, 962, 963, 976, 977, 978, 979, 980, 981, 982, 983, 984, 985, 986, 987, 988, 989, 990] (by decide +kernel) (by decide +kernel)
set_option maxRecDepth 20000 in
theorem gL_law_X8_init : GoodIn wsL_law (wsX8_init) := ggL_law_X8_init
set_option maxRecDepth 20000 in
theorem ggL_law_X9_init : GoodIn wsL_law wsX9_init := goodIn_r _ [97, 98, 11, 12, 57, 99, 100, 101, 102, 103, 104, 964, 965, 966, 967, 968, 969, 970, 971, 972, 973] (by decide +kernel) (by decide +kernel)
set_option maxRecDepth 20000 in
theorem gL_law_X9_init : GoodIn wsL_law (wsX9_init) := ggL_law_X9_init
set_option maxRecDepth 20000 in
theorem ggL_law_L_add : GoodIn wsL_law wsL_add := goodIn_ca (goodIn_ca (goodIn_ca (goodIn_r _ [108, 109, 110, 111, 112, 113, 114, 2, 115, 116, 117, 118, 119, 16, 24, 120, 121, 122, 123, 124, 125, 126, 127, 23, 128, 59, 58, 129, 130, 131, 132, 133, 134, 135, 136, 137, 138, 139, 140, 141, 142, 143, 144, 145, 146, 147, 148, 149, 20, 150, 151, 152, 19, 153, 66, 65, 67, 154, 155, 156, 157, 158, 159, 160, 15, 161, 52, 53, 162, 163, 164, 165, 166, 167, 168, 169, 170, 954, 955, 956, 957, 958, 959, 960, 961, 962, 963, 974, 975, 979, 980, 976, 977, 978] (by decide +kernel) (by decide +kernel)) (goodIn_sub (fun _ h => List.mem_append_left _ (List.mem_append_left _ (List.mem_append_right _ h))) (by decide +kernel))) (goodIn_sub (fun _ h => List.mem_append_left _ (List.mem_append_right _ h)) (by decide +kernel))) (goodIn_sub (fun _ h => List.mem_append_right _ h) (by decide +kernel))
set_option maxRecDepth 20000 in
theorem gL_law_L_add : GoodIn wsL_law (va_wsS RL 112 yL_add wsL_add) := goodIn_app (goodIn_of _ (by decide +kernel)) ggL_law_L_add
set_option maxRecDepth 20000 in
theorem ggL_law_X9_add : GoodIn wsL_law wsX9_add := goodIn_r _ [174, 175, 176, 5, 177, 178, 179, 180, 181, 182, 183, 184, 185, 186, 187, 188, 99, 189, 190, 191, 192, 193, 194, 195, 196, 197, 198, 199, 200, 201, 202, 100, 203, 204, 205, 206, 207, 208, 209, 210, 211, 212, 213, 214, 215, 101, 216, 217, 218, 219, 964, 965, 966, 967, 968, 969, 970, 971, 972, 973] (by decide +kernel) (by decide +kernel)
set_option maxRecDepth 20000 in
theorem gL_law_X9_add : GoodIn wsL_law (wsV RL 117 RX9 yX9_add wsX9_add) := goodIn_app (goodIn_of _ (by decide +kernel)) ggL_law_X9_add
set_option maxRecDepth 20000 in
theorem ggL_law_X9_thrown : GoodIn wsL_law wsX9_thrown := goodIn_r _ [223, 197, 964, 965, 966, 967, 968, 969, 970, 971, 972, 973] (by decide +kernel) (by decide +kernel)
set_option maxRecDepth 20000 in
theorem gL_law_X9_thrown : GoodIn wsL_law (wsV RL 118 RX9 yX9_thrown wsX9_thrown) := goodIn_app (goodIn_of _ (by decide +kernel)) ggL_law_X9_thrown
set_option maxRecDepth 20000 in
theorem ggL_law_L_remove : GoodIn wsL_law wsL_remove := goodIn_ca (goodIn_ca (goodIn_r _ [226, 109, 111, 227, 228, 229, 2, 230, 118, 119, 16, 24, 120, 121, 122, 123, 124, 125, 126, 127, 23, 128, 59, 58, 129, 130, 131, 132, 231, 232, 233, 234, 137, 138, 139, 140, 141, 142, 143, 144, 145, 146, 147, 148, 149, 20, 150, 151, 152, 19, 153, 66, 65, 67, 154, 155, 156, 157, 158, 159, 160, 15, 161, 52, 53, 162, 163, 164, 165, 166, 167, 168, 169, 170, 954, 955, 956, 957, 958, 959, 960, 961, 962, 963, 974, 975, 979, 980, 976, 977, 978] (by decide +kernel) (by decide +kernel)) (goodIn_sub (fun _ h => List.mem_append_left _ (List.mem_append_right _ h)) (by decide +kernel))) (goodIn_sub (fun _ h => List.mem_append_right _ h) (by decide +kernel))
set_option maxRecDepth 20000 in
theorem gL_law_L_remove : GoodIn wsL_law (va_wsS RL 121 yL_remove wsL_remove) := goodIn_app (goodIn_of _ (by decide +kernel)) ggL_law_L_remove
set_option maxRecDepth 20000 in
theorem ggL_law_X9_remove : GoodIn wsL_law wsX9_remove := goodIn_r _ [238, 175, 176, 5, 177, 178, 179, 180, 181, 182, 183, 184, 185, 186, 187, 188, 99, 189, 190, 191, 192, 193, 194, 195, 196, 197, 198, 199, 200, 201, 202, 100, 203, 204, 205, 206, 207, 208, 209, 210, 211, 212, 213, 214, 215, 101, 216, 217, 218, 219, 964, 965, 966, 967, 968, 969, 970, 971, 972, 973] (by decide +kernel) (by decide +kernel)
set_option maxRecDepth 20000 in
theorem gL_law_X9_remove : GoodIn wsL_law (wsV RL 123 RX9 yX9_remove wsX9_remove) := goodIn_app (goodIn_of _ (by decide +kernel)) ggL_law_X9_remove
set_option maxRecDepth 20000 in
theorem ggL_law_L_clear : GoodIn wsL_law wsL_clear := goodIn_ca (goodIn_r _ [241, 109, 242, 243, 244, 2, 245, 16, 24, 120, 121, 122, 123, 124, 246, 138, 139, 23, 140, 59, 146, 147, 148, 149, 20, 150, 151, 152, 19, 153, 66, 65, 67, 154, 155, 156, 157, 158, 159, 160, 15, 161, 52, 53, 162, 163, 164, 165, 58, 166, 167, 168, 169, 170, 954, 955, 956, 957, 958, 959, 960, 961, 962, 963, 974, 975, 979, 980, 976, 977, 978] (by decide +kernel) (by decide +kernel)) (goodIn_sub (fun _ h => List.mem_append_right _ h) (by decide +kernel))
set_option maxRecDepth 20000 in
theorem gL_law_L_clear : GoodIn wsL_law (va_wsS RL 124 yL_clear wsL_clear) := goodIn_app (goodIn_of _ (by decide +kernel)) ggL_law_L_clear
set_option maxRecDepth 20000 in
theorem ggL_law_X9_clear : GoodIn wsL_law wsX9_clear := goodIn_r _ [250, 175, 176, 5, 177, 178, 179, 180, 193, 194, 195, 196, 197, 198, 199, 200, 201, 202, 100, 99, 185, 186, 187, 188, 207, 208, 209, 210, 211, 216, 217, 218, 219, 101, 964, 965, 966, 967, 968, 969, 970, 971, 972, 973] (by decide +kernel) (by decide +kernel)
set_option maxRecDepth 20000 in
theorem gL_law_X9_clear : GoodIn wsL_law (wsV RL 127 RX9 yX9_clear wsX9_clear) := goodIn_app (goodIn_of _ (by decide +kernel)) ggL_law_X9_clear
set_option maxRecDepth 20000 in
theorem ggL_law_L_copy : GoodIn wsL_law wsL_copy := goodIn_ca (goodIn_r _ [253, 109, 254, 255, 256, 2, 257, 24, 16, 120, 121, 122, 123, 124, 170, 163, 164, 23, 165, 58, 166, 167, 168, 169, 59, 146, 147, 148, 149, 20, 150, 151, 152, 19, 153, 66, 65, 67, 154, 155, 156, 157, 158, 159, 160, 15, 161, 52, 53, 162, 954, 955, 956, 957, 958, 959, 960, 961, 962, 963, 974, 975, 979, 980, 976, 977, 978] (by decide +kernel) (by decide +kernel)) (goodIn_sub (fun _ h => List.mem_append_right _ h) (by decide +kernel))
set_option maxRecDepth 20000 in
theorem gL_law_L_copy : GoodIn wsL_law (va_wsS RL 128 yL_copy wsL_copy) := goodIn_app (goodIn_of _ (by decide +kernel)) ggL_law_L_copy
set_option maxRecDepth 20000 in
theorem ggL_law_X9_copy : GoodIn wsL_law wsX9_copy := goodIn_r _ [261, 175, 176, 5, 177, 178, 179, 180, 193, 194, 195, 196, 197, 198, 199, 200, 201, 202, 100, 99, 203, 204, 205, 206, 207, 208, 209, 210, 211, 185, 186, 187, 188, 189, 190, 191, 192, 212, 213, 214, 215, 101, 216, 217, 218, 219, 964, 965, 966, 967, 968, 969, 970, 971, 972, 973] (by decide +kernel) (by decide +kernel)
set_option maxRecDepth 20000 in
theorem gL_law_X9_copy : GoodIn wsL_law (wsV RL 130 RX9 yX9_copy wsX9_copy) := goodIn_app (goodIn_of _ (by decide +kernel)) ggL_law_X9_copy
set_option maxRecDepth 20000 in
theorem ggL_law_L_size : GoodIn wsL_law wsL_size := goodIn_ca (goodIn_r _ [264, 109, 265, 266, 267, 2, 268, 16, 120, 121, 122, 123, 124, 954, 955, 956, 957, 958, 959, 960, 961, 962, 963, 974, 975, 979, 980] (by decide +kernel) (by decide +kernel)) (goodIn_sub (fun _ h => List.mem_append_right _ h) (by decide +kernel))
set_option maxRecDepth 20000 in
theorem gL_law_L_size : GoodIn wsL_law (va_wsS RL 131 yL_size wsL_size) := goodIn_app (goodIn_of _ (by decide +kernel)) ggL_law_L_size
set_option maxRecDepth 20000 in
theorem ggL_law_X9_size : GoodIn wsL_law wsX9_size := goodIn_r _ [272, 175, 176, 5, 177, 178, 179, 180, 193, 194, 195, 196, 197, 185, 186, 187, 188, 99, 964, 965, 966, 967, 968, 969, 970, 971, 972, 973] (by decide +kernel) (by decide +kernel)
set_option maxRecDepth 20000 in
theorem gL_law_X9_size : GoodIn wsL_law (wsV RL 133 RX9 yX9_size wsX9_size) := goodIn_app (goodIn_of _ (by decide +kernel)) ggL_law_X9_size
set_option maxRecDepth 20000 in
theorem ggL_law_L_mark : GoodIn wsL_law wsL_mark := goodIn_ca (goodIn_r _ [275, 109, 276, 277, 278, 2, 279, 123, 124, 16, 120, 121, 122, 129, 130, 131, 23, 132, 59, 58, 954, 955, 956, 957, 958, 959, 960, 961, 962, 963, 974, 975, 979, 980] (by decide +kernel) (by decide +kernel)) (goodIn_sub (fun _ h => List.mem_append_right _ h) (by decide +kernel))
set_option maxRecDepth 20000 in
theorem gL_law_L_mark : GoodIn wsL_law (va_wsS RL 134 yL_mark wsL_mark) := goodIn_app (goodIn_of _ (by decide +kernel)) ggL_law_L_mark
set_option maxRecDepth 20000 in
theorem ggL_law_X9_mark : GoodIn wsL_law wsX9_mark := goodIn_r _ [283, 175, 176, 5, 177, 178, 179, 180, 185, 186, 187, 188, 99, 193, 194, 195, 196, 197, 189, 190, 191, 192, 964, 965, 966, 967, 968, 969, 970, 971, 972, 973] (by decide +kernel) (by decide +kernel)
set_option maxRecDepth 20000 in
theorem gL_law_X9_mark : GoodIn wsL_law (wsV RL 136 RX9 yX9_mark wsX9_mark) := goodIn_app (goodIn_of _ (by decide +kernel)) ggL_law_X9_mark
set_option maxRecDepth 20000 in
theorem ggL_law_L_length : GoodIn wsL_law wsL_length := goodIn_ca (goodIn_r _ [286, 109, 287, 288, 289, 2, 290, 16, 120, 121, 122, 123, 124, 291, 292, 293, 23, 294, 59, 295, 296, 297, 298, 141, 130, 131, 132, 58, 954, 955, 956, 957, 958, 959, 960, 961, 962, 963, 974, 975, 979, 980] (by decide +kernel) (by decide +kernel)) (goodIn_sub (fun _ h => List.mem_append_right _ h) (by decide +kernel))
set_option maxRecDepth 20000 in
theorem gL_law_L_length : GoodIn wsL_law (va_wsS RL 137 yL_length wsL_length) := goodIn_app (goodIn_of _ (by decide +kernel)) ggL_law_L_length
set_option maxRecDepth 20000 in
theorem ggL_law_X9_length : GoodIn wsL_law wsX9_length := goodIn_r _ [302, 175, 176, 5, 177, 178, 179, 180, 193, 194, 195, 196, 197, 303, 304, 305, 306, 185, 186, 187, 188, 99, 189, 190, 191, 192, 964, 965, 966, 967, 968, 969, 970, 971, 972, 973] (by decide +kernel) (by decide +kernel)
set_option maxRecDepth 20000 in
theorem gL_law_X9_length : GoodIn wsL_law (wsV RL 139 RX9 yX9_length wsX9_length) := goodIn_app (goodIn_of _ (by decide +kernel)) ggL_law_X9_length
set_option maxRecDepth 20000 in
theorem ggL_law_L_multiplicity : GoodIn wsL_law wsL_multiplicity := goodIn_ca (goodIn_ca (goodIn_r _ [309, 109, 110, 310, 311, 312, 2, 313, 116, 117, 16, 120, 121, 122, 123, 124, 314, 315, 316, 23, 317, 59, 58, 954, 955, 956, 957, 958, 959, 960, 961, 962, 963, 974, 975, 979, 980] (by decide +kernel) (by decide +kernel)) (goodIn_sub (fun _ h => List.mem_append_left _ (List.mem_append_left _ (List.mem_append_right _ h))) (by decide +kernel))) (goodIn_sub (fun _ h => List.mem_append_right _ h) (by decide +kernel))
set_option maxRecDepth 20000 in
theorem gL_law_L_multiplicity : GoodIn wsL_law (va_wsS RL 140 yL_multiplicity wsL_multiplicity) := goodIn_app (goodIn_of _ (by decide +kernel)) ggL_law_L_multiplicity
set_option maxRecDepth 20000 in
theorem ggL_law_X9_multiplicity : GoodIn wsL_law wsX9_multiplicity := goodIn_r _ [321, 175, 176, 5, 177, 178, 179, 180, 193, 194, 195, 196, 197, 322, 323, 324, 325, 185, 186, 187, 188, 99, 189, 190, 191, 192, 964, 965, 966, 967, 968, 969, 970, 971, 972, 973] (by decide +kernel) (by decide +kernel)
set_option maxRecDepth 20000 in
theorem gL_law_X9_multiplicity : GoodIn wsL_law (wsV RL 142 RX9 yX9_multiplicity wsX9_multiplicity) := goodIn_app (goodIn_of _ (by decide +kernel)) ggL_law_X9_multiplicity
set_option maxRecDepth 20000 in
theorem ggL_law_L_isRuler : GoodIn wsL_law wsL_isRuler := goodIn_ca (goodIn_r _ [328, 109, 329, 330, 331, 2, 332, 120, 121, 122, 123, 124, 333, 334, 335, 336, 36, 16, 337, 338, 339, 38, 340, 82, 83, 341, 342, 343, 33, 344, 77, 345, 346, 347, 348, 349, 130, 131, 23, 132, 59, 58, 350, 351, 352, 353, 354, 355, 356, 357, 984, 985, 986, 954, 955, 956, 957, 958, 959, 960, 961, 962, 963, 974, 975, 979, 980, 983] (by decide +kernel) (by decide +kernel)) (goodIn_sub (fun _ h => List.mem_append_right _ h) (by decide +kernel))
set_option maxRecDepth 20000 in
theorem gL_law_L_isRuler : GoodIn wsL_law (va_wsS RL 143 yL_isRuler wsL_isRuler) := goodIn_app (goodIn_of _ (by decide +kernel)) ggL_law_L_isRuler
set_option maxRecDepth 20000 in
theorem ggL_law_X9_isRuler : GoodIn wsL_law wsX9_isRuler := goodIn_r _ [361, 175, 176, 5, 177, 178, 179, 180, 193, 194, 195, 196, 197, 362, 363, 364, 365, 102, 366, 367, 368, 369, 370, 371, 372, 373, 185, 186, 187, 188, 99, 189, 190, 191, 192, 964, 965, 966, 967, 968, 969, 970, 971, 972, 973] (by decide +kernel) (by decide +kernel)
set_option maxRecDepth 20000 in
theorem gL_law_X9_isRuler : GoodIn wsL_law (wsV RL 145 RX9 yX9_isRuler wsX9_isRuler) := goodIn_app (goodIn_of _ (by decide +kernel)) ggL_law_X9_isRuler
set_option maxRecDepth 20000 in
theorem ggL_law_L_completeUpTo : GoodIn wsL_law wsL_completeUpTo := goodIn_ca (goodIn_r _ [376, 109, 377, 378, 379, 2, 380, 120, 121, 122, 123, 124, 333, 334, 335, 336, 36, 16, 337, 338, 339, 38, 340, 82, 83, 341, 342, 343, 33, 344, 77, 345, 346, 347, 348, 349, 130, 131, 23, 132, 59, 58, 350, 351, 352, 353, 354, 355, 356, 357, 381, 382, 383, 384, 954, 955, 956, 957, 958, 959, 960, 961, 962, 963, 974, 975, 984, 985, 986, 979, 980, 983] (by decide +kernel) (by decide +kernel)) (goodIn_sub (fun _ h => List.mem_append_right _ h) (by decide +kernel))
set_option maxRecDepth 20000 in
theorem gL_law_L_completeUpTo : GoodIn wsL_law (va_wsS RL 146 yL_completeUpTo wsL_completeUpTo) := goodIn_app (goodIn_of _ (by decide +kernel)) ggL_law_L_completeUpTo
set_option maxRecDepth 20000 in
theorem ggL_law_X9_completeUpTo : GoodIn wsL_law wsX9_completeUpTo := goodIn_r _ [388, 175, 176, 5, 177, 178, 179, 180, 193, 194, 195, 196, 197, 389, 390, 391, 392, 102, 366, 367, 368, 369, 370, 371, 372, 373, 185, 186, 187, 188, 99, 189, 190, 191, 192, 964, 965, 966, 967, 968, 969, 970, 971, 972, 973] (by decide +kernel) (by decide +kernel)
set_option maxRecDepth 20000 in
theorem gL_law_X9_completeUpTo : GoodIn wsL_law (wsV RL 148 RX9 yX9_completeUpTo wsX9_completeUpTo) := goodIn_app (goodIn_of _ (by decide +kernel)) ggL_law_X9_completeUpTo
set_option maxRecDepth 20000 in
theorem ggL_law_L_differences : GoodIn wsL_law wsL_differences := goodIn_ca (goodIn_r _ [395, 109, 396, 397, 398, 2, 399, 120, 121, 122, 123, 124, 333, 334, 335, 336, 36, 16, 337, 338, 339, 38, 340, 82, 83, 341, 342, 343, 33, 344, 77, 345, 346, 347, 348, 349, 130, 131, 23, 132, 59, 58, 350, 351, 352, 353, 354, 355, 356, 357, 400, 401, 402, 403, 404, 405, 406, 407, 408, 409, 410, 984, 985, 986, 954, 955, 956, 957, 958, 959, 960, 961, 962, 963, 974, 975, 979, 980, 983] (by decide +kernel) (by decide +kernel)) (goodIn_sub (fun _ h => List.mem_append_right _ h) (by decide +kernel))
set_option maxRecDepth 20000 in
theorem gL_law_L_differences : GoodIn wsL_law (va_wsS RL 149 yL_differences wsL_differences) := goodIn_app (goodIn_of _ (by decide +kernel)) ggL_law_L_differences
set_option maxRecDepth 20000 in
theorem ggL_law_X9_differences : GoodIn wsL_law wsX9_differences := goodIn_r _ [414, 175, 176, 5, 177, 178, 179, 180, 193, 194, 195, 196, 197, 415, 416, 417, 418, 102, 366, 367, 368, 369, 370, 371, 372, 373, 185, 186, 187, 188, 99, 189, 190, 191, 192, 964, 965, 966, 967, 968, 969, 970, 971, 972, 973] (by decide +kernel) (by decide +kernel)
set_option maxRecDepth 20000 in
theorem gL_law_X9_differences : GoodIn wsL_law (wsV RL 151 RX9 yX9_differences wsX9_differences) := goodIn_app (goodIn_of _ (by decide +kernel)) ggL_law_X9_differences
set_option maxRecDepth 20000 in
theorem ggL_law_L_isFamily : GoodIn wsL_law wsL_isFamily := goodIn_ca (goodIn_r _ [421, 110, 422, 423, 424, 2, 425, 116, 117, 426, 427, 428, 429, 36, 333, 334, 335, 336, 16, 337, 338, 339, 38, 340, 82, 83, 341, 342, 343, 33, 344, 77, 345, 346, 347, 348, 349, 130, 131, 23, 132, 59, 58, 350, 351, 352, 353, 354, 355, 356, 357, 430, 431, 432, 433, 434, 435, 436, 437, 984, 985, 986, 954, 955, 956, 957, 958, 959, 960, 961, 962, 963, 974, 975, 979, 980, 983] (by decide +kernel) (by decide +kernel)) (goodIn_sub (fun _ h => List.mem_append_left _ (List.mem_append_left _ (List.mem_append_right _ h))) (by decide +kernel))
set_option maxRecDepth 20000 in
theorem gL_law_L_isFamily : GoodIn wsL_law (va_wsS RL 152 yL_isFamily wsL_isFamily) := goodIn_app (goodIn_of _ (by decide +kernel)) ggL_law_L_isFamily
set_option maxRecDepth 20000 in
theorem ggL_law_X9_isFamily : GoodIn wsL_law wsX9_isFamily := goodIn_r _ [441, 178, 179, 5, 180, 193, 194, 195, 196, 197, 362, 363, 364, 365, 102, 366, 367, 368, 369, 370, 371, 372, 373, 185, 186, 187, 188, 99, 189, 190, 191, 192, 964, 965, 966, 967, 968, 969, 970, 971, 972, 973] (by decide +kernel) (by decide +kernel)
set_option maxRecDepth 20000 in
theorem gL_law_X9_isFamily : GoodIn wsL_law (wsV RL 154 RX9 yX9_isFamily wsX9_isFamily) := goodIn_app (goodIn_of _ (by decide +kernel)) ggL_law_X9_isFamily
set_option maxRecDepth 20000 in
theorem ggL_law_L_setModulus : GoodIn wsL_law wsL_setModulus := goodIn_ca (goodIn_r _ [444, 110, 445, 446, 447, 2, 448, 116, 117, 16, 20, 150, 151, 152, 19, 153, 66, 65, 67, 154, 155, 156, 157, 158, 159, 160, 15, 161, 52, 53, 162, 163, 164, 23, 165, 58, 166, 167, 168, 169, 59, 954, 955, 956, 957, 958, 959, 960, 961, 962, 963, 974, 975, 976, 977, 978, 979, 980] (by decide +kernel) (by decide +kernel)) (goodIn_sub (fun _ h => List.mem_append_left _ (List.mem_append_left _ (List.mem_append_right _ h))) (by decide +kernel))
set_option maxRecDepth 20000 in
theorem gL_law_L_setModulus : GoodIn wsL_law (va_wsS RL 155 yL_setModulus wsL_setModulus) := goodIn_app (goodIn_of _ (by decide +kernel)) ggL_law_L_setModulus
set_option maxRecDepth 20000 in
theorem ggL_law_X9_setModulus : GoodIn wsL_law wsX9_setModulus := goodIn_r _ [452, 99, 178, 179, 5, 180, 193, 194, 195, 196, 197, 198, 199, 200, 201, 202, 100, 453, 454, 455, 456, 964, 965, 966, 967, 968, 969, 970, 971, 972, 973] (by decide +kernel) (by decide +kernel)
set_option maxRecDepth 20000 in
theorem gL_law_X9_setModulus : GoodIn wsL_law (wsV RL 157 RX9 yX9_setModulus wsX9_setModulus) := goodIn_app (goodIn_of _ (by decide +kernel)) ggL_law_X9_setModulus
set_option maxRecDepth 20000 in
theorem ggL_law_L_cyclicMultiplicity : GoodIn wsL_law wsL_cyclicMultiplicity := goodIn_ca (goodIn_ca (goodIn_ca (goodIn_r _ [459, 109, 110, 111, 460, 461, 462, 2, 463, 116, 117, 16, 120, 121, 122, 123, 124, 464, 465, 466, 467, 118, 119, 468, 296, 297, 23, 298, 59, 141, 130, 131, 132, 58, 314, 315, 316, 317, 954, 955, 956, 957, 958, 959, 960, 961, 962, 963, 974, 975, 979, 980] (by decide +kernel) (by decide +kernel)) (goodIn_sub (fun _ h => List.mem_append_left _ (List.mem_append_left _ (List.mem_append_right _ h))) (by decide +kernel))) (goodIn_sub (fun _ h => List.mem_append_right _ h) (by decide +kernel))) (goodIn_sub (fun _ h => List.mem_append_left _ (List.mem_append_right _ h)) (by decide +kernel))
set_option maxRecDepth 20000 in
theorem gL_law_L_cyclicMultiplicity : GoodIn wsL_law (va_wsS RL 158 yL_cyclicMultiplicity wsL_cyclicMultiplicity) := goodIn_app (goodIn_of _ (by decide +kernel)) ggL_law_L_cyclicMultiplicity
set_option maxRecDepth 20000 in
theorem ggL_law_X9_cyclicMultiplicity : GoodIn wsL_law wsX9_cyclicMultiplicity := goodIn_r _ [472, 175, 176, 5, 177, 178, 179, 180, 453, 454, 455, 456, 99, 473, 474, 475, 476, 185, 186, 187, 188, 189, 190, 191, 192, 193, 194, 195, 196, 197, 477, 478, 479, 480, 481, 482, 483, 484, 181, 182, 183, 184, 964, 965, 966, 967, 968, 969, 970, 971, 972, 973] (by decide +kernel) (by decide +kernel)
set_option maxRecDepth 20000 in
theorem gL_law_X9_cyclicMultiplicity : GoodIn wsL_law (wsV RL 160 RX9 yX9_cyclicMultiplicity wsX9_cyclicMultiplicity) := goodIn_app (goodIn_of _ (by decide +kernel)) ggL_law_X9_cyclicMultiplicity
set_option maxRecDepth 20000 in
theorem ggL_law_L_isCyclicRuler : GoodIn wsL_law wsL_isCyclicRuler := goodIn_ca (goodIn_ca (goodIn_r _ [487, 109, 111, 488, 489, 490, 2, 491, 42, 16, 120, 121, 122, 123, 124, 464, 465, 466, 467, 118, 119, 468, 296, 297, 23, 298, 59, 141, 130, 131, 132, 58, 492, 493, 494, 41, 495, 496, 497, 498, 499, 88, 500, 501, 347, 502, 503, 504, 505, 506, 507, 508, 509, 510, 511, 512, 513, 514, 515, 954, 955, 956, 957, 958, 959, 960, 961, 962, 963, 974, 975, 979, 980, 987] (by decide +kernel) (by decide +kernel)) (goodIn_sub (fun _ h => List.mem_append_right _ h) (by decide +kernel))) (goodIn_sub (fun _ h => List.mem_append_left _ (List.mem_append_right _ h)) (by decide +kernel))
set_option maxRecDepth 20000 in
theorem gL_law_L_isCyclicRuler : GoodIn wsL_law (va_wsS RL 161 yL_isCyclicRuler wsL_isCyclicRuler) := goodIn_app (goodIn_of _ (by decide +kernel)) ggL_law_L_isCyclicRuler
set_option maxRecDepth 20000 in
theorem ggL_law_X9_isCyclicRuler : GoodIn wsL_law wsX9_isCyclicRuler := goodIn_r _ [519, 520, 521, 522, 5, 523, 175, 176, 177, 178, 179, 180, 473, 474, 475, 476, 185, 186, 187, 188, 99, 189, 190, 191, 192, 453, 454, 455, 456, 193, 194, 195, 196, 197, 477, 478, 479, 480, 481, 482, 483, 484, 181, 182, 183, 184, 964, 965, 966, 967, 968, 969, 970, 971, 972, 973] (by decide +kernel) (by decide +kernel)
set_option maxRecDepth 20000 in
theorem gL_law_X9_isCyclicRuler : GoodIn wsL_law (wsV RL 163 RX9 yX9_isCyclicRuler wsX9_isCyclicRuler) := goodIn_app (goodIn_of _ (by decide +kernel)) ggL_law_X9_isCyclicRuler
set_option maxRecDepth 20000 in
theorem ggL_law_L_index : GoodIn wsL_law wsL_index := goodIn_ca (goodIn_ca (goodIn_r _ [526, 109, 111, 527, 528, 529, 2, 530, 16, 120, 121, 122, 123, 124, 464, 465, 466, 467, 118, 119, 468, 296, 297, 23, 298, 59, 141, 130, 131, 132, 58, 531, 532, 533, 534, 42, 492, 493, 494, 41, 495, 496, 497, 498, 499, 88, 500, 501, 347, 502, 503, 504, 505, 506, 507, 535, 536, 537, 538, 512, 513, 514, 515, 539, 954, 955, 956, 957, 958, 959, 960, 961, 962, 963, 974, 975, 979, 980, 987] (by decide +kernel) (by decide +kernel)) (goodIn_sub (fun _ h => List.mem_append_right _ h) (by decide +kernel))) (goodIn_sub (fun _ h => List.mem_append_left _ (List.mem_append_right _ h)) (by decide +kernel))
set_option maxRecDepth 20000 in
theorem gL_law_L_index : GoodIn wsL_law (va_wsS RL 164 yL_index wsL_index) := goodIn_app (goodIn_of _ (by decide +kernel)) ggL_law_L_index
set_option maxRecDepth 20000 in
theorem ggL_law_X9_index : GoodIn wsL_law wsX9_index := goodIn_r _ [543, 520, 521, 522, 5, 523, 175, 176, 177, 178, 179, 180, 473, 474, 475, 476, 185, 186, 187, 188, 99, 189, 190, 191, 192, 453, 454, 455, 456, 193, 194, 195, 196, 197, 544, 545, 546, 547, 477, 478, 479, 480, 481, 482, 483, 484, 181, 182, 183, 184, 964, 965, 966, 967, 968, 969, 970, 971, 972, 973] (by decide +kernel) (by decide +kernel)
set_option maxRecDepth 20000 in
theorem gL_law_X9_index : GoodIn wsL_law (wsV RL 166 RX9 yX9_index wsX9_index) := goodIn_app (goodIn_of _ (by decide +kernel)) ggL_law_X9_index
set_option maxRecDepth 20000 in
theorem ggL_law_L_map : GoodIn wsL_law wsL_map := goodIn_ca (goodIn_ca (goodIn_ca (goodIn_r _ [550, 109, 110, 111, 551, 552, 553, 2, 554, 116, 117, 16, 24, 120, 121, 122, 123, 124, 464, 465, 466, 467, 118, 119, 468, 296, 297, 23, 298, 59, 141, 130, 131, 132, 58, 555, 556, 557, 558, 34, 559, 342, 343, 33, 344, 77, 345, 346, 347, 348, 129, 560, 561, 562, 563, 355, 356, 357, 564, 565, 566, 567, 568, 138, 139, 140, 569, 570, 406, 571, 572, 573, 574, 575, 576, 577, 143, 144, 145, 146, 147, 148, 149, 20, 150, 151, 152, 19, 153, 66, 65, 67, 154, 155, 156, 157, 158, 159, 160, 15, 161, 52, 53, 162, 163, 164, 165, 166, 167, 168, 169, 170, 954, 955, 956, 957, 958, 959, 960, 961, 962, 963, 974, 975, 979, 980, 983, 976, 977, 978] (by decide +kernel) (by decide +kernel)) (goodIn_sub (fun _ h => List.mem_append_left _ (List.mem_append_left _ (List.mem_append_right _ h))) (by decide +kernel))) (goodIn_sub (fun _ h => List.mem_append_right _ h) (by decide +kernel))) (goodIn_sub (fun _ h => List.mem_append_left _ (List.mem_append_right _ h)) (by decide +kernel))
set_option maxRecDepth 20000 in
theorem gL_law_L_map : GoodIn wsL_law (va_wsS RL 167 yL_map wsL_map) := goodIn_app (goodIn_of _ (by decide +kernel)) ggL_law_L_map
set_option maxRecDepth 20000 in
theorem ggL_law_X9_map : GoodIn wsL_law wsX9_map := goodIn_r _ [581, 175, 176, 5, 177, 178, 179, 180, 473, 474, 475, 476, 185, 186, 187, 188, 99, 189, 190, 191, 192, 453, 454, 455, 456, 193, 194, 195, 196, 197, 198, 199, 200, 201, 202, 100, 207, 208, 209, 210, 211, 481, 482, 483, 484, 212, 213, 214, 215, 101, 216, 217, 218, 219, 964, 965, 966, 967, 968, 969, 970, 971, 972, 973] (by decide +kernel) (by decide +kernel)
set_option maxRecDepth 20000 in
theorem gL_law_X9_map : GoodIn wsL_law (wsV RL 170 RX9 yX9_map wsX9_map) := goodIn_app (goodIn_of _ (by decide +kernel)) ggL_law_X9_map
set_option maxRecDepth 20000 in
theorem ggL_law_L_complement : GoodIn wsL_law wsL_complement := goodIn_ca (goodIn_ca (goodIn_r _ [584, 109, 111, 585, 586, 587, 2, 588, 118, 119, 16, 34, 24, 120, 121, 122, 123, 124, 464, 465, 466, 467, 468, 296, 297, 23, 298, 59, 141, 130, 131, 132, 58, 589, 590, 591, 33, 592, 593, 342, 343, 344, 77, 345, 346, 347, 348, 594, 595, 355, 356, 357, 246, 138, 139, 140, 596, 351, 352, 353, 597, 143, 144, 145, 146, 147, 148, 149, 20, 150, 151, 152, 19, 153, 66, 65, 67, 154, 155, 156, 157, 158, 159, 160, 15, 161, 52, 53, 162, 163, 164, 165, 166, 167, 168, 169, 170, 954, 955, 956, 957, 958, 959, 960, 961, 962, 963, 974, 975, 979, 980, 983, 976, 977, 978] (by decide +kernel) (by decide +kernel)) (goodIn_sub (fun _ h => List.mem_append_left _ (List.mem_append_right _ h)) (by decide +kernel))) (goodIn_sub (fun _ h => List.mem_append_right _ h) (by decide +kernel))
set_option maxRecDepth 20000 in
theorem gL_law_L_complement : GoodIn wsL_law (va_wsS RL 171 yL_complement wsL_complement) := goodIn_app (goodIn_of _ (by decide +kernel)) ggL_law_L_complement
set_option maxRecDepth 20000 in
theorem ggL_law_X9_complement : GoodIn wsL_law wsX9_complement := goodIn_r _ [601, 175, 176, 5, 177, 178, 179, 180, 473, 474, 475, 476, 185, 186, 187, 188, 99, 189, 190, 191, 192, 453, 454, 455, 456, 193, 194, 195, 196, 197, 198, 199, 200, 201, 202, 100, 207, 208, 209, 210, 211, 181, 182, 183, 184, 212, 213, 214, 215, 101, 216, 217, 218, 219, 964, 965, 966, 967, 968, 969, 970, 971, 972, 973] (by decide +kernel) (by decide +kernel)
set_option maxRecDepth 20000 in
theorem gL_law_X9_complement : GoodIn wsL_law (wsV RL 173 RX9 yX9_complement wsX9_complement) := goodIn_app (goodIn_of _ (by decide +kernel)) ggL_law_X9_complement
set_option maxRecDepth 20000 in
theorem ggL_law_L_reflect : GoodIn wsL_law wsL_reflect := goodIn_ca (goodIn_r _ [604, 109, 605, 606, 607, 2, 608, 16, 24, 120, 121, 122, 123, 124, 246, 138, 139, 23, 140, 59, 468, 296, 297, 298, 141, 130, 131, 132, 58, 129, 597, 143, 144, 145, 146, 147, 148, 149, 20, 150, 151, 152, 19, 153, 66, 65, 67, 154, 155, 156, 157, 158, 159, 160, 15, 161, 52, 53, 162, 163, 164, 165, 166, 167, 168, 169, 170, 954, 955, 956, 957, 958, 959, 960, 961, 962, 963, 974, 975, 979, 980, 976, 977, 978] (by decide +kernel) (by decide +kernel)) (goodIn_sub (fun _ h => List.mem_append_right _ h) (by decide +kernel))
set_option maxRecDepth 20000 in
theorem gL_law_L_reflect : GoodIn wsL_law (va_wsS RL 174 yL_reflect wsL_reflect) := goodIn_app (goodIn_of _ (by decide +kernel)) ggL_law_L_reflect
set_option maxRecDepth 20000 in
theorem ggL_law_X9_reflect : GoodIn wsL_law wsX9_reflect := goodIn_r _ [612, 175, 176, 5, 177, 178, 179, 180, 193, 194, 195, 196, 197, 198, 199, 200, 201, 202, 100, 99, 207, 208, 209, 210, 211, 185, 186, 187, 188, 189, 190, 191, 192, 212, 213, 214, 215, 101, 216, 217, 218, 219, 964, 965, 966, 967, 968, 969, 970, 971, 972, 973] (by decide +kernel) (by decide +kernel)
set_option maxRecDepth 20000 in
theorem gL_law_X9_reflect : GoodIn wsL_law (wsV RL 176 RX9 yX9_reflect wsX9_reflect) := goodIn_app (goodIn_of _ (by decide +kernel)) ggL_law_X9_reflect
set_option maxRecDepth 20000 in
theorem ggL_law_L_multipliers : GoodIn wsL_law wsL_multipliers := goodIn_ca (goodIn_ca (goodIn_r _ [615, 109, 111, 616, 617, 618, 2, 619, 16, 120, 121, 122, 123, 124, 464, 465, 466, 467, 118, 119, 468, 296, 297, 23, 298, 59, 141, 130, 131, 132, 58, 620, 621, 622, 623, 46, 42, 34, 624, 625, 626, 45, 627, 94, 93, 92, 628, 629, 560, 561, 562, 492, 493, 494, 41, 495, 496, 497, 498, 499, 88, 500, 501, 347, 502, 503, 504, 505, 506, 507, 589, 590, 591, 33, 592, 593, 342, 343, 344, 77, 345, 346, 348, 594, 595, 355, 356, 357, 630, 631, 632, 633, 634, 635, 636, 637, 129, 539, 513, 514, 515, 638, 639, 640, 641, 642, 643, 644, 645, 596, 351, 352, 353, 954, 955, 956, 957, 958, 959, 960, 961, 962, 963, 974, 975, 979, 980, 988, 989, 990, 987, 983] (by decide +kernel) (by decide +kernel)) (goodIn_sub (fun _ h => List.mem_append_right _ h) (by decide +kernel))) (goodIn_sub (fun _ h => List.mem_append_left _ (List.mem_append_right _ h)) (by decide +kernel))
set_option maxRecDepth 20000 in
theorem gL_law_L_multipliers : GoodIn wsL_law (va_wsS RL 177 yL_multipliers wsL_multipliers) := goodIn_app (goodIn_of _ (by decide +kernel)) ggL_law_L_multipliers
set_option maxRecDepth 20000 in
theorem ggL_law_X9_multipliers : GoodIn wsL_law wsX9_multipliers := goodIn_r _ [649, 520, 521, 522, 5, 523, 175, 176, 177, 178, 179, 180, 473, 474, 475, 476, 185, 186, 187, 188, 99, 189, 190, 191, 192, 453, 454, 455, 456, 193, 194, 195, 196, 197, 650, 651, 652, 653, 654, 655, 656, 657, 658, 659, 660, 481, 482, 483, 484, 661, 662, 663, 664, 181, 182, 183, 184, 964, 965, 966, 967, 968, 969, 970, 971, 972, 973] (by decide +kernel) (by decide +kernel)
set_option maxRecDepth 20000 in
theorem gL_law_X9_multipliers : GoodIn wsL_law (wsV RL 179 RX9 yX9_multipliers wsX9_multipliers) := goodIn_app (goodIn_of _ (by decide +kernel)) ggL_law_X9_multipliers
set_option maxRecDepth 20000 in
theorem ggL_law_L_canonical : GoodIn wsL_law wsL_canonical := goodIn_ca (goodIn_ca (goodIn_r _ [667, 109, 111, 668, 669, 670, 2, 671, 118, 119, 16, 24, 120, 121, 122, 123, 124, 464, 465, 466, 467, 468, 296, 297, 23, 298, 59, 141, 130, 131, 132, 58, 672, 673, 674, 675, 46, 30, 25, 29, 624, 625, 626, 45, 627, 94, 93, 92, 628, 629, 560, 561, 562, 630, 631, 632, 633, 555, 556, 557, 558, 34, 559, 342, 343, 33, 344, 77, 345, 346, 347, 348, 129, 563, 355, 356, 357, 564, 565, 566, 567, 568, 138, 139, 140, 569, 570, 406, 571, 572, 573, 574, 575, 576, 577, 143, 144, 145, 676, 677, 678, 28, 679, 73, 680, 681, 682, 683, 684, 72, 685, 292, 293, 294, 295, 686, 687, 688, 689, 690, 691, 692, 693, 694, 155, 156, 157, 695, 696, 697, 698, 699, 700, 701, 702, 703, 704, 705, 706, 707, 708, 709, 710, 711, 712, 713, 714, 715, 716, 717, 718, 719, 720, 721, 722, 723, 724, 146, 147, 148, 149, 20, 150, 151, 152, 19, 153, 66, 65, 67, 154, 158, 159, 160, 15, 161, 52, 53, 162, 163, 164, 165, 166, 167, 168, 169, 170, 954, 955, 956, 957, 958, 959, 960, 961, 962, 963, 974, 975, 979, 980, 981, 982, 988, 989, 990, 983, 976, 977, 978] (by decide +kernel) (by decide +kernel)) (goodIn_sub (fun _ h => List.mem_append_left _ (List.mem_append_right _ h)) (by decide +kernel))) (goodIn_sub (fun _ h => List.mem_append_right _ h) (by decide +kernel))
set_option maxRecDepth 20000 in
theorem gL_law_L_canonical : GoodIn wsL_law (va_wsS RL 180 yL_canonical wsL_canonical) := goodIn_app (goodIn_of _ (by decide +kernel)) ggL_law_L_canonical
set_option maxRecDepth 20000 in
theorem ggL_law_X9_canonical : GoodIn wsL_law wsX9_canonical := goodIn_r _ [728, 103, 175, 176, 5, 177, 178, 179, 180, 185, 186, 187, 188, 99, 473, 474, 475, 476, 189, 190, 191, 192, 453, 454, 455, 456, 193, 194, 195, 196, 197, 198, 199, 200, 201, 202, 100, 654, 655, 656, 207, 208, 209, 210, 211, 481, 482, 483, 484, 212, 213, 214, 215, 101, 729, 730, 731, 732, 733, 734, 735, 736, 216, 217, 218, 219, 964, 965, 966, 967, 968, 969, 970, 971, 972, 973] (by decide +kernel) (by decide +kernel)
set_option maxRecDepth 20000 in
theorem gL_law_X9_canonical : GoodIn wsL_law (wsV RL 182 RX9 yX9_canonical wsX9_canonical) := goodIn_app (goodIn_of _ (by decide +kernel)) ggL_law_X9_canonical
set_option maxRecDepth 20000 in
theorem ggL_law_L_erdosTuran : GoodIn wsL_law wsL_erdosTuran := goodIn_ca (goodIn_ca (goodIn_r _ [739, 109, 110, 740, 741, 742, 2, 743, 24, 16, 120, 121, 122, 123, 124, 744, 745, 746, 116, 117, 747, 748, 749, 560, 561, 562, 246, 138, 139, 23, 140, 59, 597, 143, 144, 145, 58, 146, 147, 148, 149, 20, 150, 151, 152, 19, 153, 66, 65, 67, 154, 155, 156, 157, 158, 159, 160, 15, 161, 52, 53, 162, 163, 164, 165, 166, 167, 168, 169, 170, 291, 292, 293, 294, 295, 296, 297, 298, 141, 130, 131, 132, 954, 955, 956, 957, 958, 959, 960, 961, 962, 963, 974, 975, 979, 980, 976, 977, 978] (by decide +kernel) (by decide +kernel)) (goodIn_sub (fun _ h => List.mem_append_right _ h) (by decide +kernel))) (goodIn_sub (fun _ h => List.mem_append_left _ (List.mem_append_left _ (List.mem_append_right _ h))) (by decide +kernel))
set_option maxRecDepth 20000 in
theorem gL_law_L_erdosTuran : GoodIn wsL_law (va_wsS RL 183 yL_erdosTuran wsL_erdosTuran) := goodIn_app (goodIn_of _ (by decide +kernel)) ggL_law_L_erdosTuran
set_option maxRecDepth 20000 in
theorem ggL_law_X9_erdosTuran : GoodIn wsL_law wsX9_erdosTuran := goodIn_r _ [753, 175, 176, 5, 177, 178, 179, 180, 754, 755, 756, 193, 194, 195, 196, 197, 198, 199, 200, 201, 202, 100, 99, 207, 208, 209, 210, 211, 212, 213, 214, 215, 101, 216, 217, 218, 219, 303, 304, 305, 306, 185, 186, 187, 188, 189, 190, 191, 192, 964, 965, 966, 967, 968, 969, 970, 971, 972, 973] (by decide +kernel) (by decide +kernel)
set_option maxRecDepth 20000 in
theorem gL_law_X9_erdosTuran : GoodIn wsL_law (wsV RL 185 RX9 yX9_erdosTuran wsX9_erdosTuran) := goodIn_app (goodIn_of _ (by decide +kernel)) ggL_law_X9_erdosTuran
set_option maxRecDepth 20000 in
theorem ggL_law_L_ruzsa : GoodIn wsL_law wsL_ruzsa := goodIn_ca (goodIn_ca (goodIn_r _ [759, 109, 110, 760, 761, 762, 2, 763, 116, 117, 34, 24, 120, 121, 122, 123, 124, 744, 745, 746, 747, 748, 749, 560, 561, 562, 764, 765, 766, 559, 342, 343, 33, 344, 77, 345, 346, 347, 348, 563, 355, 356, 357, 564, 565, 566, 567, 568, 138, 139, 23, 140, 59, 569, 570, 406, 571, 572, 573, 574, 575, 576, 577, 143, 144, 145, 58, 146, 147, 148, 149, 20, 16, 150, 151, 152, 19, 153, 66, 65, 67, 154, 155, 156, 157, 158, 159, 160, 15, 161, 52, 53, 162, 163, 164, 165, 166, 167, 168, 169, 170, 291, 292, 293, 294, 295, 296, 297, 298, 141, 130, 131, 132, 954, 955, 956, 957, 958, 959, 960, 961, 962, 963, 983, 979, 980, 974, 975, 976, 977, 978] (by decide +kernel) (by decide +kernel)) (goodIn_sub (fun _ h => List.mem_append_left _ (List.mem_append_left _ (List.mem_append_right _ h))) (by decide +kernel))) (goodIn_sub (fun _ h => List.mem_append_right _ h) (by decide +kernel))
set_option maxRecDepth 20000 in
theorem gL_law_L_ruzsa : GoodIn wsL_law (va_wsS RL 186 yL_ruzsa wsL_ruzsa) := goodIn_app (goodIn_of _ (by decide +kernel)) ggL_law_L_ruzsa
set_option maxRecDepth 20000 in
theorem ggL_law_X9_ruzsa : GoodIn wsL_law wsX9_ruzsa := goodIn_r _ [770, 99, 175, 176, 5, 177, 178, 179, 180, 754, 755, 756, 771, 772, 773, 193, 194, 195, 196, 197, 198, 199, 200, 201, 202, 100, 207, 208, 209, 210, 211, 212, 213, 214, 215, 101, 216, 217, 218, 219, 303, 304, 305, 306, 185, 186, 187, 188, 189, 190, 191, 192, 964, 965, 966, 967, 968, 969, 970, 971, 972, 973] (by decide +kernel) (by decide +kernel)
set_option maxRecDepth 20000 in
theorem gL_law_X9_ruzsa : GoodIn wsL_law (wsV RL 189 RX9 yX9_ruzsa wsX9_ruzsa) := goodIn_app (goodIn_of _ (by decide +kernel)) ggL_law_X9_ruzsa
set_option maxRecDepth 20000 in
theorem ggL_law_L_residues : GoodIn wsL_law wsL_residues := goodIn_ca (goodIn_ca (goodIn_r _ [776, 109, 110, 777, 778, 779, 2, 780, 34, 24, 120, 121, 122, 123, 124, 744, 745, 746, 116, 117, 747, 748, 749, 560, 561, 562, 559, 342, 343, 33, 344, 77, 345, 346, 347, 348, 563, 355, 356, 357, 564, 565, 566, 567, 568, 138, 139, 23, 140, 59, 569, 570, 406, 571, 572, 573, 574, 575, 576, 577, 143, 144, 145, 58, 146, 147, 148, 149, 20, 16, 150, 151, 152, 19, 153, 66, 65, 67, 154, 155, 156, 157, 158, 159, 160, 15, 161, 52, 53, 162, 163, 164, 165, 166, 167, 168, 169, 170, 954, 955, 956, 957, 958, 959, 960, 961, 962, 963, 979, 980, 983, 974, 975, 976, 977, 978] (by decide +kernel) (by decide +kernel)) (goodIn_sub (fun _ h => List.mem_append_right _ h) (by decide +kernel))) (goodIn_sub (fun _ h => List.mem_append_left _ (List.mem_append_left _ (List.mem_append_right _ h))) (by decide +kernel))
set_option maxRecDepth 20000 in
theorem gL_law_L_residues : GoodIn wsL_law (va_wsS RL 190 yL_residues wsL_residues) := goodIn_app (goodIn_of _ (by decide +kernel)) ggL_law_L_residues
set_option maxRecDepth 20000 in
theorem ggL_law_X9_residues : GoodIn wsL_law wsX9_residues := goodIn_r _ [784, 99, 175, 176, 5, 177, 178, 179, 180, 754, 755, 756, 193, 194, 195, 196, 197, 198, 199, 200, 201, 202, 100, 207, 208, 209, 210, 211, 212, 213, 214, 215, 101, 216, 217, 218, 219, 964, 965, 966, 967, 968, 969, 970, 971, 972, 973] (by decide +kernel) (by decide +kernel)
set_option maxRecDepth 20000 in
theorem gL_law_X9_residues : GoodIn wsL_law (wsV RL 192 RX9 yX9_residues wsX9_residues) := goodIn_app (goodIn_of _ (by decide +kernel)) ggL_law_X9_residues
set_option maxRecDepth 20000 in
theorem ggL_law_L_extend : GoodIn wsL_law wsL_extend := goodIn_ca (goodIn_ca (goodIn_ca (goodIn_r _ [787, 109, 110, 111, 788, 789, 790, 2, 791, 116, 117, 118, 119, 16, 36, 24, 120, 121, 122, 123, 124, 333, 334, 335, 336, 337, 338, 339, 38, 340, 82, 83, 341, 342, 343, 33, 344, 77, 345, 346, 347, 348, 349, 130, 131, 23, 132, 59, 58, 350, 351, 352, 353, 354, 355, 356, 357, 792, 793, 794, 795, 170, 163, 164, 165, 166, 167, 168, 169, 597, 143, 144, 145, 468, 296, 297, 298, 141, 796, 797, 798, 799, 800, 801, 802, 803, 146, 147, 148, 149, 20, 150, 151, 152, 19, 153, 66, 65, 67, 154, 155, 156, 157, 158, 159, 160, 15, 161, 52, 53, 162, 984, 985, 986, 954, 955, 956, 957, 958, 959, 960, 961, 962, 963, 974, 975, 979, 980, 983, 976, 977, 978] (by decide +kernel) (by decide +kernel)) (goodIn_sub (fun _ h => List.mem_append_left _ (List.mem_append_left _ (List.mem_append_right _ h))) (by decide +kernel))) (goodIn_sub (fun _ h => List.mem_append_left _ (List.mem_append_right _ h)) (by decide +kernel))) (goodIn_sub (fun _ h => List.mem_append_right _ h) (by decide +kernel))
set_option maxRecDepth 20000 in
theorem gL_law_L_extend : GoodIn wsL_law (va_wsS RL 193 yL_extend wsL_extend) := goodIn_app (goodIn_of _ (by decide +kernel)) ggL_law_L_extend
set_option maxRecDepth 20000 in
theorem ggL_law_X9_extend : GoodIn wsL_law wsX9_extend := goodIn_r _ [807, 175, 176, 5, 177, 178, 179, 180, 362, 363, 364, 365, 102, 366, 367, 368, 369, 370, 371, 372, 373, 185, 186, 187, 188, 99, 189, 190, 191, 192, 808, 809, 810, 811, 211, 101, 203, 204, 205, 206, 207, 208, 209, 210, 212, 213, 214, 215, 812, 813, 814, 815, 193, 194, 195, 196, 197, 198, 199, 200, 201, 202, 100, 216, 217, 218, 219, 964, 965, 966, 967, 968, 969, 970, 971, 972, 973] (by decide +kernel) (by decide +kernel)
set_option maxRecDepth 20000 in
theorem gL_law_X9_extend : GoodIn wsL_law (wsV RL 195 RX9 yX9_extend wsX9_extend) := goodIn_app (goodIn_of _ (by decide +kernel)) ggL_law_X9_extend
set_option maxRecDepth 20000 in
theorem ggL_law_L_optimal : GoodIn wsL_law wsL_optimal := goodIn_ca (goodIn_ca (goodIn_r _ [818, 109, 110, 819, 820, 821, 2, 822, 116, 117, 16, 24, 120, 121, 122, 123, 124, 823, 824, 825, 826, 246, 138, 139, 23, 140, 59, 597, 143, 144, 145, 58, 827, 828, 829, 468, 296, 297, 298, 141, 130, 131, 132, 830, 831, 832, 833, 146, 147, 148, 149, 20, 150, 151, 152, 19, 153, 66, 65, 67, 154, 155, 156, 157, 158, 159, 160, 15, 161, 52, 53, 162, 163, 164, 165, 166, 167, 168, 169, 170, 291, 292, 293, 294, 295, 954, 955, 956, 957, 958, 959, 960, 961, 962, 963, 974, 975, 979, 980, 976, 977, 978] (by decide +kernel) (by decide +kernel)) (goodIn_sub (fun _ h => List.mem_append_left _ (List.mem_append_left _ (List.mem_append_right _ h))) (by decide +kernel))) (goodIn_sub (fun _ h => List.mem_append_right _ h) (by decide +kernel))
set_option maxRecDepth 20000 in
theorem gL_law_L_optimal : GoodIn wsL_law (va_wsS RL 196 yL_optimal wsL_optimal) := goodIn_app (goodIn_of _ (by decide +kernel)) ggL_law_L_optimal
set_option maxRecDepth 20000 in
theorem ggL_law_X9_optimal : GoodIn wsL_law wsX9_optimal := goodIn_r _ [837, 104, 175, 176, 5, 177, 178, 179, 180, 193, 194, 195, 196, 197, 198, 199, 200, 201, 202, 100, 99, 838, 839, 840, 841, 842, 843, 844, 845, 846, 847, 848, 849, 850, 851, 852, 853, 854, 855, 856, 857, 207, 208, 209, 210, 211, 212, 213, 214, 215, 101, 216, 217, 218, 219, 303, 304, 305, 306, 185, 186, 187, 188, 189, 190, 191, 192, 964, 965, 966, 967, 968, 969, 970, 971, 972, 973] (by decide +kernel) (by decide +kernel)
set_option maxRecDepth 20000 in
theorem gL_law_X9_optimal : GoodIn wsL_law (wsV RL 198 RX9 yX9_optimal wsX9_optimal) := goodIn_app (goodIn_of _ (by decide +kernel)) ggL_law_X9_optimal
set_option maxRecDepth 20000 in
theorem ggL_law_L_sparse : GoodIn wsL_law wsL_sparse := goodIn_ca (goodIn_ca (goodIn_r _ [860, 109, 110, 861, 862, 863, 2, 864, 116, 117, 16, 24, 120, 121, 122, 123, 124, 865, 866, 867, 868, 869, 246, 138, 139, 23, 140, 59, 597, 143, 144, 145, 58, 870, 871, 872, 873, 874, 405, 406, 407, 408, 409, 410, 468, 296, 297, 298, 141, 130, 131, 132, 830, 831, 832, 833, 146, 147, 148, 149, 20, 150, 151, 152, 19, 153, 66, 65, 67, 154, 155, 156, 157, 158, 159, 160, 15, 161, 52, 53, 162, 163, 164, 165, 166, 167, 168, 169, 170, 954, 955, 956, 957, 958, 959, 960, 961, 962, 963, 974, 975, 979, 980, 976, 977, 978] (by decide +kernel) (by decide +kernel)) (goodIn_sub (fun _ h => List.mem_append_left _ (List.mem_append_left _ (List.mem_append_right _ h))) (by decide +kernel))) (goodIn_sub (fun _ h => List.mem_append_right _ h) (by decide +kernel))
set_option maxRecDepth 20000 in
theorem gL_law_L_sparse : GoodIn wsL_law (va_wsS RL 199 yL_sparse wsL_sparse) := goodIn_app (goodIn_of _ (by decide +kernel)) ggL_law_L_sparse
set_option maxRecDepth 20000 in
theorem ggL_law_X9_sparse : GoodIn wsL_law wsX9_sparse := goodIn_r _ [878, 104, 175, 176, 5, 177, 178, 179, 180, 193, 194, 195, 196, 197, 198, 199, 200, 201, 202, 100, 99, 838, 839, 840, 841, 879, 880, 881, 850, 851, 852, 853, 854, 855, 856, 857, 207, 208, 209, 210, 211, 212, 213, 214, 215, 101, 216, 217, 218, 219, 964, 965, 966, 967, 968, 969, 970, 971, 972, 973] (by decide +kernel) (by decide +kernel)
set_option maxRecDepth 20000 in
theorem gL_law_X9_sparse : GoodIn wsL_law (wsV RL 201 RX9 yX9_sparse wsX9_sparse) := goodIn_app (goodIn_of _ (by decide +kernel)) ggL_law_X9_sparse
set_option maxRecDepth 20000 in
theorem ggL_law_L_firstDifferenceSet : GoodIn wsL_law wsL_firstDifferenceSet := goodIn_ca (goodIn_ca (goodIn_r _ [884, 109, 110, 885, 886, 887, 2, 888, 116, 117, 120, 121, 122, 123, 124, 560, 561, 562, 889, 890, 891, 892, 893, 894, 895, 24, 42, 246, 138, 139, 23, 140, 59, 597, 143, 144, 145, 58, 896, 497, 498, 41, 499, 88, 500, 501, 347, 502, 897, 898, 899, 900, 901, 902, 156, 903, 503, 130, 131, 132, 504, 505, 506, 507, 904, 905, 906, 468, 296, 297, 298, 141, 830, 831, 832, 833, 146, 147, 148, 149, 20, 16, 150, 151, 152, 19, 153, 66, 65, 67, 154, 155, 157, 158, 159, 160, 15, 161, 52, 53, 162, 163, 164, 165, 166, 167, 168, 169, 170, 954, 955, 956, 957, 958, 959, 960, 961, 962, 963, 979, 980, 987, 974, 975, 976, 977, 978] (by decide +kernel) (by decide +kernel)) (goodIn_sub (fun _ h => List.mem_append_left _ (List.mem_append_left _ (List.mem_append_right _ h))) (by decide +kernel))) (goodIn_sub (fun _ h => List.mem_append_right _ h) (by decide +kernel))
set_option maxRecDepth 20000 in
theorem gL_law_L_firstDifferenceSet : GoodIn wsL_law (va_wsS RL 202 yL_firstDifferenceSet wsL_firstDifferenceSet) := goodIn_app (goodIn_of _ (by decide +kernel)) ggL_law_L_firstDifferenceSet
set_option maxRecDepth 20000 in
theorem ggL_law_X9_firstDifferenceSet : GoodIn wsL_law wsX9_firstDifferenceSet := goodIn_r _ [910, 99, 175, 176, 5, 177, 178, 179, 180, 193, 194, 195, 196, 197, 838, 839, 840, 841, 104, 911, 912, 913, 914, 102, 850, 851, 852, 853, 198, 199, 200, 201, 202, 100, 854, 855, 856, 857, 207, 208, 209, 210, 211, 212, 213, 214, 215, 101, 216, 217, 218, 219, 964, 965, 966, 967, 968, 969, 970, 971, 972, 973] (by decide +kernel) (by decide +kernel)
set_option maxRecDepth 20000 in
theorem gL_law_X9_firstDifferenceSet : GoodIn wsL_law (wsV RL 204 RX9 yX9_firstDifferenceSet wsX9_firstDifferenceSet) := goodIn_app (goodIn_of _ (by decide +kernel)) ggL_law_X9_firstDifferenceSet
set_option maxRecDepth 20000 in
theorem ggL_law_L_undo : GoodIn wsL_law wsL_undo := goodIn_ca (goodIn_r _ [917, 111, 918, 919, 920, 2, 921, 118, 119, 20, 16, 922, 923, 924, 19, 925, 66, 67, 65, 158, 159, 160, 15, 161, 52, 53, 162, 163, 164, 23, 165, 58, 166, 167, 168, 169, 59, 954, 955, 956, 957, 958, 959, 960, 961, 962, 963, 976, 977, 978, 974, 975, 979, 980] (by decide +kernel) (by decide +kernel)) (goodIn_sub (fun _ h => List.mem_append_left _ (List.mem_append_right _ h)) (by decide +kernel))
set_option maxRecDepth 20000 in
theorem gL_law_L_undo : GoodIn wsL_law (va_wsS RL 205 yL_undo wsL_undo) := goodIn_app (goodIn_of _ (by decide +kernel)) ggL_law_L_undo
set_option maxRecDepth 20000 in
theorem ggL_law_X9_undo : GoodIn wsL_law wsX9_undo := goodIn_r _ [929, 202, 99, 100, 193, 194, 195, 5, 196, 197, 964, 965, 966, 967, 968, 969, 970, 971, 972, 973] (by decide +kernel) (by decide +kernel)
set_option maxRecDepth 20000 in
theorem gL_law_X9_undo : GoodIn wsL_law (wsV RL 208 RX9 yX9_undo wsX9_undo) := goodIn_app (goodIn_of _ (by decide +kernel)) ggL_law_X9_undo
set_option maxRecDepth 20000 in
theorem ggL_law_X8_digest : GoodIn wsL_law wsX8_digest := goodIn_r _ [933, 934, 20, 16, 36, 426, 427, 428, 2, 429, 333, 334, 335, 336, 337, 338, 339, 38, 340, 82, 83, 341, 342, 343, 33, 344, 77, 345, 346, 347, 348, 349, 130, 131, 23, 132, 59, 58, 350, 351, 352, 353, 354, 355, 356, 357, 430, 431, 432, 433, 935, 936, 937, 938, 939, 940, 941, 942, 129, 381, 382, 383, 384, 400, 401, 402, 403, 404, 405, 406, 407, 408, 409, 410, 468, 296, 297, 298, 141, 531, 532, 533, 534, 42, 492, 493, 494, 41, 495, 496, 497, 498, 499, 88, 500, 501, 502, 503, 504, 505, 506, 507, 535, 536, 537, 538, 512, 513, 514, 515, 539, 620, 621, 622, 623, 46, 34, 624, 625, 626, 45, 627, 94, 93, 92, 628, 629, 560, 561, 562, 589, 590, 591, 592, 593, 594, 595, 630, 631, 632, 633, 634, 635, 636, 637, 638, 639, 640, 641, 642, 643, 644, 645, 596, 434, 435, 436, 437, 954, 955, 956, 957, 958, 959, 960, 961, 962, 963, 976, 977, 978, 974, 975, 984, 985, 986, 979, 980, 983, 987, 988, 989, 990] (by decide +kernel) (by decide +kernel)
set_option maxRecDepth 20000 in
theorem gL_law_X8_digest : GoodIn wsL_law (wsV RL 209 RX8 yX8_digest wsX8_digest) := goodIn_app (goodIn_of _ (by decide +kernel)) ggL_law_X8_digest
set_option maxRecDepth 20000 in
theorem ggL_law_X9_digest : GoodIn wsL_law wsX9_digest := goodIn_r _ [946, 197, 947, 948, 202, 99, 949, 950, 951, 5, 952, 953, 453, 454, 455, 456, 185, 186, 187, 188, 362, 363, 364, 365, 102, 366, 367, 368, 369, 370, 371, 372, 373, 189, 190, 191, 192, 389, 390, 391, 392, 415, 416, 417, 418, 473, 474, 475, 476, 544, 545, 546, 547, 477, 478, 479, 480, 481, 482, 483, 484, 181, 182, 183, 184, 650, 651, 652, 653, 654, 655, 656, 657, 658, 659, 660, 661, 662, 663, 664, 964, 965, 966, 967, 968, 969, 970, 971, 972, 973] (by decide +kernel) (by decide +kernel)
set_option maxRecDepth 20000 in
theorem gL_law_X9_digest : GoodIn wsL_law (wsV RL 213 RX9 yX9_digest wsX9_digest) := goodIn_app (goodIn_of _ (by decide +kernel)) ggL_law_X9_digest
theorem dL_law_0 : decode cL_law 0 = .ok (.new 8, 3) := by decide +kernel
theorem dL_law_3 : decode cL_law 3 = .ok (.dup, 1) := by decide +kernel
theorem dL_law_4 : decode cL_law 4 = .ok (.invokespecial 108, 3) := by decide +kernel
theorem dL_law_7 : decode cL_law 7 = .ok (.astore_n 1, 1) := by decide +kernel
theorem dL_law_8 : decode cL_law 8 = .ok (.new 109, 3) := by decide +kernel
theorem dL_law_11 : decode cL_law 11 = .ok (.dup, 1) := by decide +kernel
theorem dL_law_12 : decode cL_law 12 = .ok (.invokespecial 111, 3) := by decide +kernel
theorem dL_law_15 : decode cL_law 15 = .ok (.astore_n 2, 1) := by decide +kernel
theorem dL_law_16 : decode cL_law 16 = .ok (.iconst 1, 1) := by decide +kernel
theorem dL_law_17 : decode cL_law 17 = .ok (.newarray .long, 2) := by decide +kernel
theorem dL_law_19 : decode cL_law 19 = .ok (.astore_n 3, 1) := by decide +kernel
theorem dL_law_20 : decode cL_law 20 = .ok (.iconst 0, 1) := by decide +kernel
theorem dL_law_21 : decode cL_law 21 = .ok (.istore 4, 2) := by decide +kernel
theorem dL_law_23 : decode cL_law 23 = .ok (.iload 4, 2) := by decide +kernel
theorem dL_law_25 : decode cL_law 25 = .ok (.aload_n 0, 1) := by decide +kernel
theorem dL_law_26 : decode cL_law 26 = .ok (.arraylength, 1) := by decide +kernel
theorem dL_law_27 : decode cL_law 27 = .ok (.iconst 5, 1) := by decide +kernel
theorem dL_law_28 : decode cL_law 28 = .ok (.isub, 1) := by decide +kernel
theorem dL_law_29 : decode cL_law 29 = .ok (.if_icmp .gt 2048, 3) := by decide +kernel
theorem dL_law_32 : decode cL_law 32 = .ok (.aload_n 0, 1) := by decide +kernel
theorem dL_law_33 : decode cL_law 33 = .ok (.iload 4, 2) := by decide +kernel
theorem dL_law_35 : decode cL_law 35 = .ok (.iaload, 1) := by decide +kernel
theorem dL_law_36 : decode cL_law 36 = .ok (.bipush 31, 2) := by decide +kernel
theorem dL_law_38 : decode cL_law 38 = .ok (.iand, 1) := by decide +kernel
theorem dL_law_39 : decode cL_law 39 = .ok (.tableswitch 2032 0 29 #[133, 201, 269, 325, 393, 449, 517, 573, 641, 704, 760, 816, 879, 935, 1003, 1066, 1122, 1214, 1282, 1350, 1406, 1474, 1542, 1622, 1690, 1758, 1826, 1894, 1974, 2018], 133) := by decide +kernel
theorem dL_law_172 : decode cL_law 172 = .ok (.aload_n 1, 1) := by decide +kernel
theorem dL_law_173 : decode cL_law 173 = .ok (.aload_n 0, 1) := by decide +kernel
theorem dL_law_174 : decode cL_law 174 = .ok (.iload 4, 2) := by decide +kernel
theorem dL_law_176 : decode cL_law 176 = .ok (.iconst 1, 1) := by decide +kernel
theorem dL_law_177 : decode cL_law 177 = .ok (.iadd, 1) := by decide +kernel
theorem dL_law_178 : decode cL_law 178 = .ok (.iaload, 1) := by decide +kernel
theorem dL_law_179 : decode cL_law 179 = .ok (.aload_n 0, 1) := by decide +kernel
theorem dL_law_180 : decode cL_law 180 = .ok (.iload 4, 2) := by decide +kernel
theorem dL_law_182 : decode cL_law 182 = .ok (.iconst 2, 1) := by decide +kernel
theorem dL_law_183 : decode cL_law 183 = .ok (.iadd, 1) := by decide +kernel
theorem dL_law_184 : decode cL_law 184 = .ok (.iaload, 1) := by decide +kernel
theorem dL_law_185 : decode cL_law 185 = .ok (.aload_n 3, 1) := by decide +kernel
theorem dL_law_186 : decode cL_law 186 = .ok (.invokestatic 112, 3) := by decide +kernel
theorem dL_law_189 : decode cL_law 189 = .ok (.istore 5, 2) := by decide +kernel
theorem dL_law_191 : decode cL_law 191 = .ok (.aload_n 2, 1) := by decide +kernel
theorem dL_law_192 : decode cL_law 192 = .ok (.aload_n 0, 1) := by decide +kernel
theorem dL_law_193 : decode cL_law 193 = .ok (.iload 4, 2) := by decide +kernel
theorem dL_law_195 : decode cL_law 195 = .ok (.iconst 1, 1) := by decide +kernel
theorem dL_law_196 : decode cL_law 196 = .ok (.iadd, 1) := by decide +kernel
theorem dL_law_197 : decode cL_law 197 = .ok (.iaload, 1) := by decide +kernel
theorem dL_law_198 : decode cL_law 198 = .ok (.aload_n 0, 1) := by decide +kernel
theorem dL_law_199 : decode cL_law 199 = .ok (.iload 4, 2) := by decide +kernel
theorem dL_law_201 : decode cL_law 201 = .ok (.iconst 2, 1) := by decide +kernel
theorem dL_law_202 : decode cL_law 202 = .ok (.iadd, 1) := by decide +kernel
theorem dL_law_203 : decode cL_law 203 = .ok (.iaload, 1) := by decide +kernel
theorem dL_law_204 : decode cL_law 204 = .ok (.invokevirtual 117, 3) := by decide +kernel
theorem dL_law_207 : decode cL_law 207 = .ok (.istore 6, 2) := by decide +kernel
theorem dL_law_209 : decode cL_law 209 = .ok (.aload_n 2, 1) := by decide +kernel
theorem dL_law_210 : decode cL_law 210 = .ok (.invokevirtual 118, 3) := by decide +kernel
theorem dL_law_213 : decode cL_law 213 = .ok (.iload 5, 2) := by decide +kernel
theorem dL_law_215 : decode cL_law 215 = .ok (.if_icmp .eq 5, 3) := by decide +kernel
theorem dL_law_218 : decode cL_law 218 = .ok (.iconst 0, 1) := by decide +kernel
theorem dL_law_219 : decode cL_law 219 = .ok (.ireturn, 1) := by decide +kernel
