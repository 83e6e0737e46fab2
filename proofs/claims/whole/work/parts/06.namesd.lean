theorem dX9_comes_45 : decode cX9_comes 45 = .ok (.aload_n 0, 1) := by decide +kernel
theorem dX9_comes_46 : decode cX9_comes 46 = .ok (.getfield 43, 3) := by decide +kernel
theorem dX9_comes_49 : decode cX9_comes 49 = .ok (.istore_n 3, 1) := by decide +kernel
theorem dX9_comes_50 : decode cX9_comes 50 = .ok (.iload_n 3, 1) := by decide +kernel
theorem dX9_comes_51 : decode cX9_comes 51 = .ok (.iload_n 2, 1) := by decide +kernel
theorem dX9_comes_52 : decode cX9_comes 52 = .ok (.if_icmp .le 23, 3) := by decide +kernel
theorem dX9_comes_55 : decode cX9_comes 55 = .ok (.aload_n 0, 1) := by decide +kernel
theorem dX9_comes_56 : decode cX9_comes 56 = .ok (.getfield 16, 3) := by decide +kernel
theorem dX9_comes_59 : decode cX9_comes 59 = .ok (.iload_n 3, 1) := by decide +kernel
theorem dX9_comes_60 : decode cX9_comes 60 = .ok (.aload_n 0, 1) := by decide +kernel
theorem dX9_comes_61 : decode cX9_comes 61 = .ok (.getfield 16, 3) := by decide +kernel
theorem dX9_comes_64 : decode cX9_comes 64 = .ok (.iload_n 3, 1) := by decide +kernel
theorem dX9_comes_65 : decode cX9_comes 65 = .ok (.iconst 1, 1) := by decide +kernel
theorem dX9_comes_66 : decode cX9_comes 66 = .ok (.isub, 1) := by decide +kernel
theorem dX9_comes_67 : decode cX9_comes 67 = .ok (.iaload, 1) := by decide +kernel
theorem dX9_comes_68 : decode cX9_comes 68 = .ok (.iastore, 1) := by decide +kernel
theorem dX9_comes_69 : decode cX9_comes 69 = .ok (.iinc 3 (-1), 3) := by decide +kernel
theorem dX9_comes_72 : decode cX9_comes 72 = .ok (.goto (-22), 3) := by decide +kernel
theorem dX9_comes_75 : decode cX9_comes 75 = .ok (.aload_n 0, 1) := by decide +kernel
theorem dX9_comes_76 : decode cX9_comes 76 = .ok (.getfield 16, 3) := by decide +kernel
theorem dX9_comes_79 : decode cX9_comes 79 = .ok (.iload_n 2, 1) := by decide +kernel
theorem dX9_comes_80 : decode cX9_comes 80 = .ok (.iload_n 1, 1) := by decide +kernel
theorem dX9_comes_81 : decode cX9_comes 81 = .ok (.iastore, 1) := by decide +kernel
theorem dX9_comes_82 : decode cX9_comes 82 = .ok (.aload_n 0, 1) := by decide +kernel
theorem dX9_comes_83 : decode cX9_comes 83 = .ok (.dup, 1) := by decide +kernel
theorem dX9_comes_84 : decode cX9_comes 84 = .ok (.getfield 43, 3) := by decide +kernel
theorem dX9_comes_87 : decode cX9_comes 87 = .ok (.iconst 1, 1) := by decide +kernel
theorem dX9_comes_88 : decode cX9_comes 88 = .ok (.iadd, 1) := by decide +kernel
theorem dX9_comes_89 : decode cX9_comes 89 = .ok (.putfield 43, 3) := by decide +kernel
theorem dX9_comes_92 : decode cX9_comes 92 = .ok (.return_, 1) := by decide +kernel
theorem dX9_becomes_0 : decode cX9_becomes 0 = .ok (.iconst 1, 1) := by decide +kernel
theorem dX9_becomes_1 : decode cX9_becomes 1 = .ok (.bipush 25, 2) := by decide +kernel
theorem dX9_becomes_3 : decode cX9_becomes 3 = .ok (.iload_n 1, 1) := by decide +kernel
theorem dX9_becomes_4 : decode cX9_becomes 4 = .ok (.imul, 1) := by decide +kernel
theorem dX9_becomes_5 : decode cX9_becomes 5 = .ok (.iadd, 1) := by decide +kernel
theorem dX9_becomes_6 : decode cX9_becomes 6 = .ok (.istore_n 2, 1) := by decide +kernel
theorem dX9_becomes_7 : decode cX9_becomes 7 = .ok (.iconst 0, 1) := by decide +kernel
theorem dX9_becomes_8 : decode cX9_becomes 8 = .ok (.istore_n 3, 1) := by decide +kernel
theorem dX9_becomes_9 : decode cX9_becomes 9 = .ok (.iload_n 3, 1) := by decide +kernel
theorem dX9_becomes_10 : decode cX9_becomes 10 = .ok (.bipush 25, 2) := by decide +kernel
theorem dX9_becomes_12 : decode cX9_becomes 12 = .ok (.if_icmp .ge 18, 3) := by decide +kernel
theorem dX9_becomes_15 : decode cX9_becomes 15 = .ok (.aload_n 0, 1) := by decide +kernel
theorem dX9_becomes_16 : decode cX9_becomes 16 = .ok (.getfield 7, 3) := by decide +kernel
theorem dX9_becomes_19 : decode cX9_becomes 19 = .ok (.iload_n 2, 1) := by decide +kernel
theorem dX9_becomes_20 : decode cX9_becomes 20 = .ok (.iload_n 3, 1) := by decide +kernel
theorem dX9_becomes_21 : decode cX9_becomes 21 = .ok (.iadd, 1) := by decide +kernel
theorem dX9_becomes_22 : decode cX9_becomes 22 = .ok (.iconst 0, 1) := by decide +kernel
theorem dX9_becomes_23 : decode cX9_becomes 23 = .ok (.iastore, 1) := by decide +kernel
theorem dX9_becomes_24 : decode cX9_becomes 24 = .ok (.iinc 3 1, 3) := by decide +kernel
theorem dX9_becomes_27 : decode cX9_becomes 27 = .ok (.goto (-18), 3) := by decide +kernel
theorem dX9_becomes_30 : decode cX9_becomes 30 = .ok (.aload_n 0, 1) := by decide +kernel
theorem dX9_becomes_31 : decode cX9_becomes 31 = .ok (.getfield 7, 3) := by decide +kernel
theorem dX9_becomes_34 : decode cX9_becomes 34 = .ok (.iload_n 2, 1) := by decide +kernel
theorem dX9_becomes_35 : decode cX9_becomes 35 = .ok (.aload_n 0, 1) := by decide +kernel
theorem dX9_becomes_36 : decode cX9_becomes 36 = .ok (.getfield 43, 3) := by decide +kernel
theorem dX9_becomes_39 : decode cX9_becomes 39 = .ok (.iastore, 1) := by decide +kernel
theorem dX9_becomes_40 : decode cX9_becomes 40 = .ok (.iconst 0, 1) := by decide +kernel
theorem dX9_becomes_41 : decode cX9_becomes 41 = .ok (.istore_n 3, 1) := by decide +kernel
theorem dX9_becomes_42 : decode cX9_becomes 42 = .ok (.iload_n 3, 1) := by decide +kernel
theorem dX9_becomes_43 : decode cX9_becomes 43 = .ok (.aload_n 0, 1) := by decide +kernel
theorem dX9_becomes_44 : decode cX9_becomes 44 = .ok (.getfield 43, 3) := by decide +kernel
theorem dX9_becomes_47 : decode cX9_becomes 47 = .ok (.if_icmp .ge 25, 3) := by decide +kernel
theorem dX9_becomes_50 : decode cX9_becomes 50 = .ok (.aload_n 0, 1) := by decide +kernel
theorem dX9_becomes_51 : decode cX9_becomes 51 = .ok (.getfield 7, 3) := by decide +kernel
theorem dX9_becomes_54 : decode cX9_becomes 54 = .ok (.iload_n 2, 1) := by decide +kernel
theorem dX9_becomes_55 : decode cX9_becomes 55 = .ok (.iconst 1, 1) := by decide +kernel
theorem dX9_becomes_56 : decode cX9_becomes 56 = .ok (.iadd, 1) := by decide +kernel
theorem dX9_becomes_57 : decode cX9_becomes 57 = .ok (.iload_n 3, 1) := by decide +kernel
theorem dX9_becomes_58 : decode cX9_becomes 58 = .ok (.iadd, 1) := by decide +kernel
theorem dX9_becomes_59 : decode cX9_becomes 59 = .ok (.aload_n 0, 1) := by decide +kernel
theorem dX9_becomes_60 : decode cX9_becomes 60 = .ok (.getfield 16, 3) := by decide +kernel
theorem dX9_becomes_63 : decode cX9_becomes 63 = .ok (.iload_n 3, 1) := by decide +kernel
theorem dX9_becomes_64 : decode cX9_becomes 64 = .ok (.iaload, 1) := by decide +kernel
theorem dX9_becomes_65 : decode cX9_becomes 65 = .ok (.iastore, 1) := by decide +kernel
theorem dX9_becomes_66 : decode cX9_becomes 66 = .ok (.iinc 3 1, 3) := by decide +kernel
theorem dX9_becomes_69 : decode cX9_becomes 69 = .ok (.goto (-27), 3) := by decide +kernel
theorem dX9_becomes_72 : decode cX9_becomes 72 = .ok (.aload_n 0, 1) := by decide +kernel
theorem dX9_becomes_73 : decode cX9_becomes 73 = .ok (.getfield 43, 3) := by decide +kernel
theorem dX9_becomes_76 : decode cX9_becomes 76 = .ok (.ireturn, 1) := by decide +kernel
set_option maxRecDepth 20000 in
theorem ggX9_lengthOf_X9_many : GoodIn wsX9_lengthOf wsX9_many := goodIn_r _ [5, 6, 11, 12, 13, 14, 15, 16, 17, 18, 19, 20] (by decide +kernel) (by decide +kernel)
set_option maxRecDepth 20000 in
theorem gX9_lengthOf_X9_many : GoodIn wsX9_lengthOf (wsV RX9 46 RX9 yX9_many wsX9_many) := goodIn_app (goodIn_of _ (by decide +kernel)) ggX9_lengthOf_X9_many
set_option maxRecDepth 20000 in
theorem ggX9_lengthOf_X9_markAt : GoodIn wsX9_lengthOf wsX9_markAt := goodIn_r _ [10, 6, 11, 12, 13, 14, 15, 16, 17, 18, 19, 20] (by decide +kernel) (by decide +kernel)
set_option maxRecDepth 20000 in
theorem gX9_lengthOf_X9_markAt : GoodIn wsX9_lengthOf (wsV RX9 50 RX9 yX9_markAt wsX9_markAt) := goodIn_app (goodIn_of _ (by decide +kernel)) ggX9_lengthOf_X9_markAt
theorem dX9_lengthOf_0 : decode cX9_lengthOf 0 = .ok (.aload_n 0, 1) := by decide +kernel
theorem dX9_lengthOf_1 : decode cX9_lengthOf 1 = .ok (.iload_n 1, 1) := by decide +kernel
theorem dX9_lengthOf_2 : decode cX9_lengthOf 2 = .ok (.invokevirtual 46, 3) := by decide +kernel
theorem dX9_lengthOf_5 : decode cX9_lengthOf 5 = .ok (.iconst 2, 1) := by decide +kernel
theorem dX9_lengthOf_6 : decode cX9_lengthOf 6 = .ok (.if_icmp .ge 7, 3) := by decide +kernel
theorem dX9_lengthOf_9 : decode cX9_lengthOf 9 = .ok (.iconst 0, 1) := by decide +kernel
theorem dX9_lengthOf_10 : decode cX9_lengthOf 10 = .ok (.goto 22, 3) := by decide +kernel
theorem dX9_lengthOf_13 : decode cX9_lengthOf 13 = .ok (.aload_n 0, 1) := by decide +kernel
theorem dX9_lengthOf_14 : decode cX9_lengthOf 14 = .ok (.iload_n 1, 1) := by decide +kernel
theorem dX9_lengthOf_15 : decode cX9_lengthOf 15 = .ok (.aload_n 0, 1) := by decide +kernel
theorem dX9_lengthOf_16 : decode cX9_lengthOf 16 = .ok (.iload_n 1, 1) := by decide +kernel
theorem dX9_lengthOf_17 : decode cX9_lengthOf 17 = .ok (.invokevirtual 46, 3) := by decide +kernel
theorem dX9_lengthOf_20 : decode cX9_lengthOf 20 = .ok (.iconst 1, 1) := by decide +kernel
theorem dX9_lengthOf_21 : decode cX9_lengthOf 21 = .ok (.isub, 1) := by decide +kernel
theorem dX9_lengthOf_22 : decode cX9_lengthOf 22 = .ok (.invokevirtual 50, 3) := by decide +kernel
theorem dX9_lengthOf_25 : decode cX9_lengthOf 25 = .ok (.aload_n 0, 1) := by decide +kernel
theorem dX9_lengthOf_26 : decode cX9_lengthOf 26 = .ok (.iload_n 1, 1) := by decide +kernel
theorem dX9_lengthOf_27 : decode cX9_lengthOf 27 = .ok (.iconst 0, 1) := by decide +kernel
theorem dX9_lengthOf_28 : decode cX9_lengthOf 28 = .ok (.invokevirtual 50, 3) := by decide +kernel
theorem dX9_lengthOf_31 : decode cX9_lengthOf 31 = .ok (.isub, 1) := by decide +kernel
theorem dX9_lengthOf_32 : decode cX9_lengthOf 32 = .ok (.ireturn, 1) := by decide +kernel
set_option maxRecDepth 20000 in
theorem ggX9_numberOf_X9_many : GoodIn wsX9_numberOf wsX9_many := goodIn_r _ [5, 6, 11, 12, 13, 14, 15, 16, 17, 18, 19, 20] (by decide +kernel) (by decide +kernel)
set_option maxRecDepth 20000 in
theorem gX9_numberOf_X9_many : GoodIn wsX9_numberOf (wsV RX9 46 RX9 yX9_many wsX9_many) := goodIn_app (goodIn_of _ (by decide +kernel)) ggX9_numberOf_X9_many
set_option maxRecDepth 20000 in
theorem ggX9_numberOf_X9_markAt : GoodIn wsX9_numberOf wsX9_markAt := goodIn_r _ [10, 6, 11, 12, 13, 14, 15, 16, 17, 18, 19, 20] (by decide +kernel) (by decide +kernel)
set_option maxRecDepth 20000 in
theorem gX9_numberOf_X9_markAt : GoodIn wsX9_numberOf (wsV RX9 50 RX9 yX9_markAt wsX9_markAt) := goodIn_app (goodIn_of _ (by decide +kernel)) ggX9_numberOf_X9_markAt
theorem dX9_numberOf_0 : decode cX9_numberOf 0 = .ok (.iconst (-1), 1) := by decide +kernel
theorem dX9_numberOf_1 : decode cX9_numberOf 1 = .ok (.istore_n 3, 1) := by decide +kernel
theorem dX9_numberOf_2 : decode cX9_numberOf 2 = .ok (.iconst 0, 1) := by decide +kernel
theorem dX9_numberOf_3 : decode cX9_numberOf 3 = .ok (.istore 4, 2) := by decide +kernel
theorem dX9_numberOf_5 : decode cX9_numberOf 5 = .ok (.iload 4, 2) := by decide +kernel
theorem dX9_numberOf_7 : decode cX9_numberOf 7 = .ok (.aload_n 0, 1) := by decide +kernel
theorem dX9_numberOf_8 : decode cX9_numberOf 8 = .ok (.iload_n 1, 1) := by decide +kernel
theorem dX9_numberOf_9 : decode cX9_numberOf 9 = .ok (.invokevirtual 46, 3) := by decide +kernel
theorem dX9_numberOf_12 : decode cX9_numberOf 12 = .ok (.if_icmp .ge 27, 3) := by decide +kernel
theorem dX9_numberOf_15 : decode cX9_numberOf 15 = .ok (.aload_n 0, 1) := by decide +kernel
theorem dX9_numberOf_16 : decode cX9_numberOf 16 = .ok (.iload_n 1, 1) := by decide +kernel
theorem dX9_numberOf_17 : decode cX9_numberOf 17 = .ok (.iload 4, 2) := by decide +kernel
theorem dX9_numberOf_19 : decode cX9_numberOf 19 = .ok (.invokevirtual 50, 3) := by decide +kernel
theorem dX9_numberOf_22 : decode cX9_numberOf 22 = .ok (.iload_n 2, 1) := by decide +kernel
theorem dX9_numberOf_23 : decode cX9_numberOf 23 = .ok (.if_icmp .ne 8, 3) := by decide +kernel
theorem dX9_numberOf_26 : decode cX9_numberOf 26 = .ok (.iload 4, 2) := by decide +kernel
theorem dX9_numberOf_28 : decode cX9_numberOf 28 = .ok (.goto 4, 3) := by decide +kernel
theorem dX9_numberOf_31 : decode cX9_numberOf 31 = .ok (.iload_n 3, 1) := by decide +kernel
theorem dX9_numberOf_32 : decode cX9_numberOf 32 = .ok (.istore_n 3, 1) := by decide +kernel
theorem dX9_numberOf_33 : decode cX9_numberOf 33 = .ok (.iinc 4 1, 3) := by decide +kernel
theorem dX9_numberOf_36 : decode cX9_numberOf 36 = .ok (.goto (-31), 3) := by decide +kernel
theorem dX9_numberOf_39 : decode cX9_numberOf 39 = .ok (.iload_n 3, 1) := by decide +kernel
theorem dX9_numberOf_40 : decode cX9_numberOf 40 = .ok (.ireturn, 1) := by decide +kernel
set_option maxRecDepth 20000 in
theorem ggX9_takes_X9_begins : GoodIn wsX9_takes wsX9_begins := goodIn_r _ [5, 6, 21, 22, 23, 24, 25, 26, 27, 28, 29, 30] (by decide +kernel) (by decide +kernel)
set_option maxRecDepth 20000 in
theorem gX9_takes_X9_begins : GoodIn wsX9_takes (wsV RX9 54 RX9 yX9_begins wsX9_begins) := goodIn_app (goodIn_of _ (by decide +kernel)) ggX9_takes_X9_begins
set_option maxRecDepth 20000 in
theorem ggX9_takes_X9_many : GoodIn wsX9_takes wsX9_many := goodIn_r _ [10, 11, 21, 22, 23, 24, 25, 26, 27, 28, 29, 30] (by decide +kernel) (by decide +kernel)
set_option maxRecDepth 20000 in
theorem gX9_takes_X9_many : GoodIn wsX9_takes (wsV RX9 46 RX9 yX9_many wsX9_many) := goodIn_app (goodIn_of _ (by decide +kernel)) ggX9_takes_X9_many
set_option maxRecDepth 20000 in
theorem ggX9_takes_X9_markAt : GoodIn wsX9_takes wsX9_markAt := goodIn_r _ [15, 11, 21, 22, 23, 24, 25, 26, 27, 28, 29, 30] (by decide +kernel) (by decide +kernel)
set_option maxRecDepth 20000 in
theorem gX9_takes_X9_markAt : GoodIn wsX9_takes (wsV RX9 50 RX9 yX9_markAt wsX9_markAt) := goodIn_app (goodIn_of _ (by decide +kernel)) ggX9_takes_X9_markAt
set_option maxRecDepth 20000 in
theorem ggX9_takes_X9_comes : GoodIn wsX9_takes wsX9_comes := goodIn_r _ [19, 6, 20, 21, 22, 23, 24, 25, 26, 27, 28, 29, 30] (by decide +kernel) (by decide +kernel)
set_option maxRecDepth 20000 in
theorem gX9_takes_X9_comes : GoodIn wsX9_takes (wsV RX9 57 RX9 yX9_comes wsX9_comes) := goodIn_app (goodIn_of _ (by decide +kernel)) ggX9_takes_X9_comes
theorem dX9_takes_0 : decode cX9_takes 0 = .ok (.aload_n 0, 1) := by decide +kernel
theorem dX9_takes_1 : decode cX9_takes 1 = .ok (.invokevirtual 54, 3) := by decide +kernel
theorem dX9_takes_4 : decode cX9_takes 4 = .ok (.iconst 0, 1) := by decide +kernel
theorem dX9_takes_5 : decode cX9_takes 5 = .ok (.istore_n 3, 1) := by decide +kernel
theorem dX9_takes_6 : decode cX9_takes 6 = .ok (.iload_n 3, 1) := by decide +kernel
theorem dX9_takes_7 : decode cX9_takes 7 = .ok (.aload_n 0, 1) := by decide +kernel
theorem dX9_takes_8 : decode cX9_takes 8 = .ok (.iload_n 1, 1) := by decide +kernel
theorem dX9_takes_9 : decode cX9_takes 9 = .ok (.invokevirtual 46, 3) := by decide +kernel
theorem dX9_takes_12 : decode cX9_takes 12 = .ok (.if_icmp .ge 29, 3) := by decide +kernel
theorem dX9_takes_15 : decode cX9_takes 15 = .ok (.aload_n 0, 1) := by decide +kernel
theorem dX9_takes_16 : decode cX9_takes 16 = .ok (.iload_n 1, 1) := by decide +kernel
theorem dX9_takes_17 : decode cX9_takes 17 = .ok (.iload_n 3, 1) := by decide +kernel
theorem dX9_takes_18 : decode cX9_takes 18 = .ok (.invokevirtual 50, 3) := by decide +kernel
theorem dX9_takes_21 : decode cX9_takes 21 = .ok (.iload_n 2, 1) := by decide +kernel
theorem dX9_takes_22 : decode cX9_takes 22 = .ok (.if_icmp .eq 13, 3) := by decide +kernel
theorem dX9_takes_25 : decode cX9_takes 25 = .ok (.aload_n 0, 1) := by decide +kernel
theorem dX9_takes_26 : decode cX9_takes 26 = .ok (.aload_n 0, 1) := by decide +kernel
theorem dX9_takes_27 : decode cX9_takes 27 = .ok (.iload_n 1, 1) := by decide +kernel
theorem dX9_takes_28 : decode cX9_takes 28 = .ok (.iload_n 3, 1) := by decide +kernel
theorem dX9_takes_29 : decode cX9_takes 29 = .ok (.invokevirtual 50, 3) := by decide +kernel
theorem dX9_takes_32 : decode cX9_takes 32 = .ok (.invokevirtual 57, 3) := by decide +kernel
theorem dX9_takes_35 : decode cX9_takes 35 = .ok (.iinc 3 1, 3) := by decide +kernel
theorem dX9_takes_38 : decode cX9_takes 38 = .ok (.goto (-32), 3) := by decide +kernel
theorem dX9_takes_41 : decode cX9_takes 41 = .ok (.return_, 1) := by decide +kernel
set_option maxRecDepth 20000 in
theorem ggX9_add_X9_isSet : GoodIn wsX9_add wsX9_isSet := goodIn_r _ [4, 5, 6, 3, 7] (by decide +kernel) (by decide +kernel)
set_option maxRecDepth 20000 in
theorem gX9_add_X9_isSet : GoodIn wsX9_add (va_wsS RX9 61 yX9_isSet wsX9_isSet) := goodIn_app (goodIn_of _ (by decide +kernel)) ggX9_add_X9_isSet
set_option maxRecDepth 20000 in
theorem ggX9_add_X9_within : GoodIn wsX9_add wsX9_within := goodIn_r _ [7] (by decide +kernel) (by decide +kernel)
set_option maxRecDepth 20000 in
theorem gX9_add_X9_within : GoodIn wsX9_add (va_wsS RX9 32 yX9_within wsX9_within) := goodIn_app (goodIn_of _ (by decide +kernel)) ggX9_add_X9_within
set_option maxRecDepth 20000 in
theorem ggX9_add_X9_numberOf : GoodIn wsX9_add wsX9_numberOf := goodIn_r _ [11, 12, 13, 14, 3, 15, 16, 17, 18, 19, 20, 50, 51, 52, 53, 54, 55, 56, 57, 58, 59] (by decide +kernel) (by decide +kernel)
set_option maxRecDepth 20000 in
theorem gX9_add_X9_numberOf : GoodIn wsX9_add (wsV RX9 64 RX9 yX9_numberOf wsX9_numberOf) := goodIn_app (goodIn_of _ (by decide +kernel)) ggX9_add_X9_numberOf
set_option maxRecDepth 20000 in
theorem ggX9_add_X9_many : GoodIn wsX9_add wsX9_many := goodIn_r _ [15, 16, 50, 51, 52, 53, 54, 55, 56, 57, 58, 59] (by decide +kernel) (by decide +kernel)
set_option maxRecDepth 20000 in
theorem gX9_add_X9_many : GoodIn wsX9_add (wsV RX9 46 RX9 yX9_many wsX9_many) := goodIn_app (goodIn_of _ (by decide +kernel)) ggX9_add_X9_many
set_option maxRecDepth 20000 in
theorem ggX9_add_X9_refused : GoodIn wsX9_add wsX9_refused := goodIn_r _ [24, 25, 50, 51, 52, 53, 54, 55, 56, 57, 58, 59] (by decide +kernel) (by decide +kernel)
set_option maxRecDepth 20000 in
theorem gX9_add_X9_refused : GoodIn wsX9_add (wsV RX9 39 RX9 yX9_refused wsX9_refused) := goodIn_app (goodIn_of _ (by decide +kernel)) ggX9_add_X9_refused
set_option maxRecDepth 20000 in
theorem ggX9_add_X9_saves : GoodIn wsX9_add wsX9_saves := goodIn_r _ [29, 30, 31, 16, 50, 51, 52, 53, 54, 55, 56, 57, 58, 59] (by decide +kernel) (by decide +kernel)
set_option maxRecDepth 20000 in
theorem gX9_add_X9_saves : GoodIn wsX9_add (wsV RX9 67 RX9 yX9_saves wsX9_saves) := goodIn_app (goodIn_of _ (by decide +kernel)) ggX9_add_X9_saves
set_option maxRecDepth 20000 in
theorem ggX9_add_X9_takes : GoodIn wsX9_add wsX9_takes := goodIn_r _ [35, 36, 37, 38, 3, 39, 40, 12, 13, 14, 15, 16, 17, 18, 19, 20, 41, 42, 43, 44, 45, 50, 51, 52, 53, 54, 55, 56, 57, 58, 59] (by decide +kernel) (by decide +kernel)
set_option maxRecDepth 20000 in
theorem gX9_add_X9_takes : GoodIn wsX9_add (wsV RX9 70 RX9 yX9_takes wsX9_takes) := goodIn_app (goodIn_of _ (by decide +kernel)) ggX9_add_X9_takes
set_option maxRecDepth 20000 in
theorem ggX9_add_X9_comes : GoodIn wsX9_add wsX9_comes := goodIn_r _ [44, 40, 45, 50, 51, 52, 53, 54, 55, 56, 57, 58, 59] (by decide +kernel) (by decide +kernel)
set_option maxRecDepth 20000 in
theorem gX9_add_X9_comes : GoodIn wsX9_add (wsV RX9 57 RX9 yX9_comes wsX9_comes) := goodIn_app (goodIn_of _ (by decide +kernel)) ggX9_add_X9_comes
set_option maxRecDepth 20000 in
theorem ggX9_add_X9_becomes : GoodIn wsX9_add wsX9_becomes := goodIn_r _ [49, 16, 40, 45, 50, 51, 52, 53, 54, 55, 56, 57, 58, 59] (by decide +kernel) (by decide +kernel)
set_option maxRecDepth 20000 in
theorem gX9_add_X9_becomes : GoodIn wsX9_add (wsV RX9 74 RX9 yX9_becomes wsX9_becomes) := goodIn_app (goodIn_of _ (by decide +kernel)) ggX9_add_X9_becomes
theorem dX9_add_0 : decode cX9_add 0 = .ok (.aload_n 0, 1) := by decide +kernel
theorem dX9_add_1 : decode cX9_add 1 = .ok (.iload_n 1, 1) := by decide +kernel
theorem dX9_add_2 : decode cX9_add 2 = .ok (.invokestatic 61, 3) := by decide +kernel
theorem dX9_add_5 : decode cX9_add 5 = .ok (.ifCond .ne 7, 3) := by decide +kernel
theorem dX9_add_8 : decode cX9_add 8 = .ok (.iconst 1, 1) := by decide +kernel
theorem dX9_add_9 : decode cX9_add 9 = .ok (.goto 43, 3) := by decide +kernel
theorem dX9_add_12 : decode cX9_add 12 = .ok (.iload_n 2, 1) := by decide +kernel
theorem dX9_add_13 : decode cX9_add 13 = .ok (.iconst 0, 1) := by decide +kernel
theorem dX9_add_14 : decode cX9_add 14 = .ok (.sipush 2000, 3) := by decide +kernel
theorem dX9_add_17 : decode cX9_add 17 = .ok (.invokestatic 32, 3) := by decide +kernel
theorem dX9_add_20 : decode cX9_add 20 = .ok (.ifCond .ne 7, 3) := by decide +kernel
theorem dX9_add_23 : decode cX9_add 23 = .ok (.iconst 2, 1) := by decide +kernel
theorem dX9_add_24 : decode cX9_add 24 = .ok (.goto 28, 3) := by decide +kernel
theorem dX9_add_27 : decode cX9_add 27 = .ok (.aload_n 0, 1) := by decide +kernel
theorem dX9_add_28 : decode cX9_add 28 = .ok (.iload_n 1, 1) := by decide +kernel
theorem dX9_add_29 : decode cX9_add 29 = .ok (.iload_n 2, 1) := by decide +kernel
theorem dX9_add_30 : decode cX9_add 30 = .ok (.invokevirtual 64, 3) := by decide +kernel
theorem dX9_add_33 : decode cX9_add 33 = .ok (.iconst (-1), 1) := by decide +kernel
theorem dX9_add_34 : decode cX9_add 34 = .ok (.if_icmp .ne 13, 3) := by decide +kernel
theorem dX9_add_37 : decode cX9_add 37 = .ok (.aload_n 0, 1) := by decide +kernel
theorem dX9_add_38 : decode cX9_add 38 = .ok (.iload_n 1, 1) := by decide +kernel
theorem dX9_add_39 : decode cX9_add 39 = .ok (.invokevirtual 46, 3) := by decide +kernel
theorem dX9_add_42 : decode cX9_add 42 = .ok (.bipush 24, 2) := by decide +kernel
theorem dX9_add_44 : decode cX9_add 44 = .ok (.if_icmp .ne 7, 3) := by decide +kernel
theorem dX9_add_47 : decode cX9_add 47 = .ok (.iconst 3, 1) := by decide +kernel
theorem dX9_add_48 : decode cX9_add 48 = .ok (.goto 4, 3) := by decide +kernel
theorem dX9_add_51 : decode cX9_add 51 = .ok (.iconst 0, 1) := by decide +kernel
theorem dX9_add_52 : decode cX9_add 52 = .ok (.invokevirtual 39, 3) := by decide +kernel
theorem dX9_add_55 : decode cX9_add 55 = .ok (.ifCond .eq 5, 3) := by decide +kernel
theorem dX9_add_58 : decode cX9_add 58 = .ok (.iconst 0, 1) := by decide +kernel
theorem dX9_add_59 : decode cX9_add 59 = .ok (.ireturn, 1) := by decide +kernel
theorem dX9_add_60 : decode cX9_add 60 = .ok (.aload_n 0, 1) := by decide +kernel
theorem dX9_add_61 : decode cX9_add 61 = .ok (.invokevirtual 67, 3) := by decide +kernel
theorem dX9_add_64 : decode cX9_add 64 = .ok (.aload_n 0, 1) := by decide +kernel
theorem dX9_add_65 : decode cX9_add 65 = .ok (.iload_n 1, 1) := by decide +kernel
theorem dX9_add_66 : decode cX9_add 66 = .ok (.iconst (-1), 1) := by decide +kernel
theorem dX9_add_67 : decode cX9_add 67 = .ok (.invokevirtual 70, 3) := by decide +kernel
theorem dX9_add_70 : decode cX9_add 70 = .ok (.aload_n 0, 1) := by decide +kernel
theorem dX9_add_71 : decode cX9_add 71 = .ok (.iload_n 2, 1) := by decide +kernel
theorem dX9_add_72 : decode cX9_add 72 = .ok (.invokevirtual 57, 3) := by decide +kernel
theorem dX9_add_75 : decode cX9_add 75 = .ok (.aload_n 0, 1) := by decide +kernel
theorem dX9_add_76 : decode cX9_add 76 = .ok (.iload_n 1, 1) := by decide +kernel
theorem dX9_add_77 : decode cX9_add 77 = .ok (.invokevirtual 74, 3) := by decide +kernel
theorem dX9_add_80 : decode cX9_add 80 = .ok (.pop, 1) := by decide +kernel
theorem dX9_add_81 : decode cX9_add 81 = .ok (.aload_n 0, 1) := by decide +kernel
theorem dX9_add_82 : decode cX9_add 82 = .ok (.iload_n 1, 1) := by decide +kernel
theorem dX9_add_83 : decode cX9_add 83 = .ok (.iload_n 2, 1) := by decide +kernel
theorem dX9_add_84 : decode cX9_add 84 = .ok (.invokevirtual 64, 3) := by decide +kernel
theorem dX9_add_87 : decode cX9_add 87 = .ok (.ireturn, 1) := by decide +kernel
set_option maxRecDepth 20000 in
theorem ggX9_remove_X9_isSet : GoodIn wsX9_remove wsX9_isSet := goodIn_r _ [4, 5, 6, 3, 7] (by decide +kernel) (by decide +kernel)
set_option maxRecDepth 20000 in
theorem gX9_remove_X9_isSet : GoodIn wsX9_remove (va_wsS RX9 61 yX9_isSet wsX9_isSet) := goodIn_app (goodIn_of _ (by decide +kernel)) ggX9_remove_X9_isSet
set_option maxRecDepth 20000 in
theorem ggX9_remove_X9_numberOf : GoodIn wsX9_remove wsX9_numberOf := goodIn_r _ [11, 12, 13, 14, 3, 15, 16, 17, 18, 19, 20, 50, 51, 52, 53, 54, 55, 56, 57, 58, 59] (by decide +kernel) (by decide +kernel)
set_option maxRecDepth 20000 in
theorem gX9_remove_X9_numberOf : GoodIn wsX9_remove (wsV RX9 64 RX9 yX9_numberOf wsX9_numberOf) := goodIn_app (goodIn_of _ (by decide +kernel)) ggX9_remove_X9_numberOf
set_option maxRecDepth 20000 in
theorem ggX9_remove_X9_refused : GoodIn wsX9_remove wsX9_refused := goodIn_r _ [24, 25, 50, 51, 52, 53, 54, 55, 56, 57, 58, 59] (by decide +kernel) (by decide +kernel)
set_option maxRecDepth 20000 in
theorem gX9_remove_X9_refused : GoodIn wsX9_remove (wsV RX9 39 RX9 yX9_refused wsX9_refused) := goodIn_app (goodIn_of _ (by decide +kernel)) ggX9_remove_X9_refused
set_option maxRecDepth 20000 in
theorem ggX9_remove_X9_saves : GoodIn wsX9_remove wsX9_saves := goodIn_r _ [29, 30, 31, 16, 50, 51, 52, 53, 54, 55, 56, 57, 58, 59] (by decide +kernel) (by decide +kernel)
set_option maxRecDepth 20000 in
theorem gX9_remove_X9_saves : GoodIn wsX9_remove (wsV RX9 67 RX9 yX9_saves wsX9_saves) := goodIn_app (goodIn_of _ (by decide +kernel)) ggX9_remove_X9_saves
set_option maxRecDepth 20000 in
theorem ggX9_remove_X9_takes : GoodIn wsX9_remove wsX9_takes := goodIn_r _ [35, 36, 37, 38, 3, 39, 40, 12, 13, 14, 15, 16, 17, 18, 19, 20, 41, 42, 43, 44, 45, 50, 51, 52, 53, 54, 55, 56, 57, 58, 59] (by decide +kernel) (by decide +kernel)
set_option maxRecDepth 20000 in
theorem gX9_remove_X9_takes : GoodIn wsX9_remove (wsV RX9 70 RX9 yX9_takes wsX9_takes) := goodIn_app (goodIn_of _ (by decide +kernel)) ggX9_remove_X9_takes
set_option maxRecDepth 20000 in
theorem ggX9_remove_X9_becomes : GoodIn wsX9_remove wsX9_becomes := goodIn_r _ [49, 16, 40, 45, 50, 51, 52, 53, 54, 55, 56, 57, 58, 59] (by decide +kernel) (by decide +kernel)
set_option maxRecDepth 20000 in
theorem gX9_remove_X9_becomes : GoodIn wsX9_remove (wsV RX9 74 RX9 yX9_becomes wsX9_becomes) := goodIn_app (goodIn_of _ (by decide +kernel)) ggX9_remove_X9_becomes
theorem dX9_remove_0 : decode cX9_remove 0 = .ok (.aload_n 0, 1) := by decide +kernel
theorem dX9_remove_1 : decode cX9_remove 1 = .ok (.iload_n 1, 1) := by decide +kernel
theorem dX9_remove_2 : decode cX9_remove 2 = .ok (.invokestatic 61, 3) := by decide +kernel
theorem dX9_remove_5 : decode cX9_remove 5 = .ok (.ifCond .ne 7, 3) := by decide +kernel
theorem dX9_remove_8 : decode cX9_remove 8 = .ok (.iconst 1, 1) := by decide +kernel
theorem dX9_remove_9 : decode cX9_remove 9 = .ok (.goto 18, 3) := by decide +kernel
theorem dX9_remove_12 : decode cX9_remove 12 = .ok (.aload_n 0, 1) := by decide +kernel
theorem dX9_remove_13 : decode cX9_remove 13 = .ok (.iload_n 1, 1) := by decide +kernel
theorem dX9_remove_14 : decode cX9_remove 14 = .ok (.iload_n 2, 1) := by decide +kernel
theorem dX9_remove_15 : decode cX9_remove 15 = .ok (.invokevirtual 64, 3) := by decide +kernel
theorem dX9_remove_18 : decode cX9_remove 18 = .ok (.iconst (-1), 1) := by decide +kernel
theorem dX9_remove_19 : decode cX9_remove 19 = .ok (.if_icmp .ne 7, 3) := by decide +kernel
theorem dX9_remove_22 : decode cX9_remove 22 = .ok (.iconst 2, 1) := by decide +kernel
theorem dX9_remove_23 : decode cX9_remove 23 = .ok (.goto 4, 3) := by decide +kernel
theorem dX9_remove_26 : decode cX9_remove 26 = .ok (.iconst 0, 1) := by decide +kernel
theorem dX9_remove_27 : decode cX9_remove 27 = .ok (.invokevirtual 39, 3) := by decide +kernel
theorem dX9_remove_30 : decode cX9_remove 30 = .ok (.ifCond .eq 5, 3) := by decide +kernel
theorem dX9_remove_33 : decode cX9_remove 33 = .ok (.iconst 0, 1) := by decide +kernel
theorem dX9_remove_34 : decode cX9_remove 34 = .ok (.ireturn, 1) := by decide +kernel
theorem dX9_remove_35 : decode cX9_remove 35 = .ok (.aload_n 0, 1) := by decide +kernel
theorem dX9_remove_36 : decode cX9_remove 36 = .ok (.invokevirtual 67, 3) := by decide +kernel
theorem dX9_remove_39 : decode cX9_remove 39 = .ok (.aload_n 0, 1) := by decide +kernel
theorem dX9_remove_40 : decode cX9_remove 40 = .ok (.iload_n 1, 1) := by decide +kernel
theorem dX9_remove_41 : decode cX9_remove 41 = .ok (.iload_n 2, 1) := by decide +kernel
theorem dX9_remove_42 : decode cX9_remove 42 = .ok (.invokevirtual 70, 3) := by decide +kernel
theorem dX9_remove_45 : decode cX9_remove 45 = .ok (.aload_n 0, 1) := by decide +kernel
theorem dX9_remove_46 : decode cX9_remove 46 = .ok (.iload_n 1, 1) := by decide +kernel
theorem dX9_remove_47 : decode cX9_remove 47 = .ok (.invokevirtual 74, 3) := by decide +kernel
theorem dX9_remove_50 : decode cX9_remove 50 = .ok (.ireturn, 1) := by decide +kernel
set_option maxRecDepth 20000 in
theorem ggX9_clear_X9_isSet : GoodIn wsX9_clear wsX9_isSet := goodIn_r _ [4, 5, 6, 3, 7] (by decide +kernel) (by decide +kernel)
set_option maxRecDepth 20000 in
theorem gX9_clear_X9_isSet : GoodIn wsX9_clear (va_wsS RX9 61 yX9_isSet wsX9_isSet) := goodIn_app (goodIn_of _ (by decide +kernel)) ggX9_clear_X9_isSet
set_option maxRecDepth 20000 in
theorem ggX9_clear_X9_refused : GoodIn wsX9_clear wsX9_refused := goodIn_r _ [11, 12, 34, 35, 36, 37, 38, 39, 40, 41, 42, 43] (by decide +kernel) (by decide +kernel)
set_option maxRecDepth 20000 in
theorem gX9_clear_X9_refused : GoodIn wsX9_clear (wsV RX9 39 RX9 yX9_refused wsX9_refused) := goodIn_app (goodIn_of _ (by decide +kernel)) ggX9_clear_X9_refused
set_option maxRecDepth 20000 in
theorem ggX9_clear_X9_saves : GoodIn wsX9_clear wsX9_saves := goodIn_r _ [16, 17, 18, 19, 34, 35, 36, 37, 38, 39, 40, 41, 42, 43] (by decide +kernel) (by decide +kernel)
set_option maxRecDepth 20000 in
theorem gX9_clear_X9_saves : GoodIn wsX9_clear (wsV RX9 67 RX9 yX9_saves wsX9_saves) := goodIn_app (goodIn_of _ (by decide +kernel)) ggX9_clear_X9_saves
set_option maxRecDepth 20000 in
theorem ggX9_clear_X9_many : GoodIn wsX9_clear wsX9_many := goodIn_r _ [23, 19, 34, 35, 36, 37, 38, 39, 40, 41, 42, 43] (by decide +kernel) (by decide +kernel)
set_option maxRecDepth 20000 in
theorem gX9_clear_X9_many : GoodIn wsX9_clear (wsV RX9 46 RX9 yX9_many wsX9_many) := goodIn_app (goodIn_of _ (by decide +kernel)) ggX9_clear_X9_many
set_option maxRecDepth 20000 in
theorem ggX9_clear_X9_begins : GoodIn wsX9_clear wsX9_begins := goodIn_r _ [27, 28, 34, 35, 36, 37, 38, 39, 40, 41, 42, 43] (by decide +kernel) (by decide +kernel)
set_option maxRecDepth 20000 in
theorem gX9_clear_X9_begins : GoodIn wsX9_clear (wsV RX9 54 RX9 yX9_begins wsX9_begins) := goodIn_app (goodIn_of _ (by decide +kernel)) ggX9_clear_X9_begins
set_option maxRecDepth 20000 in
theorem ggX9_clear_X9_becomes : GoodIn wsX9_clear wsX9_becomes := goodIn_r _ [32, 19, 28, 33, 34, 35, 36, 37, 38, 39, 40, 41, 42, 43] (by decide +kernel) (by decide +kernel)
set_option maxRecDepth 20000 in
theorem gX9_clear_X9_becomes : GoodIn wsX9_clear (wsV RX9 74 RX9 yX9_becomes wsX9_becomes) := goodIn_app (goodIn_of _ (by decide +kernel)) ggX9_clear_X9_becomes
theorem dX9_clear_0 : decode cX9_clear 0 = .ok (.aload_n 0, 1) := by decide +kernel
theorem dX9_clear_1 : decode cX9_clear 1 = .ok (.iload_n 1, 1) := by decide +kernel
theorem dX9_clear_2 : decode cX9_clear 2 = .ok (.invokestatic 61, 3) := by decide +kernel
theorem dX9_clear_5 : decode cX9_clear 5 = .ok (.ifCond .eq 7, 3) := by decide +kernel
theorem dX9_clear_8 : decode cX9_clear 8 = .ok (.iconst 0, 1) := by decide +kernel
theorem dX9_clear_9 : decode cX9_clear 9 = .ok (.goto 4, 3) := by decide +kernel
theorem dX9_clear_12 : decode cX9_clear 12 = .ok (.iconst 1, 1) := by decide +kernel
theorem dX9_clear_13 : decode cX9_clear 13 = .ok (.invokevirtual 39, 3) := by decide +kernel
theorem dX9_clear_16 : decode cX9_clear 16 = .ok (.ifCond .eq 5, 3) := by decide +kernel
theorem dX9_clear_19 : decode cX9_clear 19 = .ok (.iconst 0, 1) := by decide +kernel
theorem dX9_clear_20 : decode cX9_clear 20 = .ok (.ireturn, 1) := by decide +kernel
theorem dX9_clear_21 : decode cX9_clear 21 = .ok (.aload_n 0, 1) := by decide +kernel
theorem dX9_clear_22 : decode cX9_clear 22 = .ok (.invokevirtual 67, 3) := by decide +kernel
theorem dX9_clear_25 : decode cX9_clear 25 = .ok (.aload_n 0, 1) := by decide +kernel
theorem dX9_clear_26 : decode cX9_clear 26 = .ok (.iload_n 1, 1) := by decide +kernel
theorem dX9_clear_27 : decode cX9_clear 27 = .ok (.invokevirtual 46, 3) := by decide +kernel
theorem dX9_clear_30 : decode cX9_clear 30 = .ok (.istore_n 2, 1) := by decide +kernel
theorem dX9_clear_31 : decode cX9_clear 31 = .ok (.aload_n 0, 1) := by decide +kernel
theorem dX9_clear_32 : decode cX9_clear 32 = .ok (.invokevirtual 54, 3) := by decide +kernel
theorem dX9_clear_35 : decode cX9_clear 35 = .ok (.aload_n 0, 1) := by decide +kernel
theorem dX9_clear_36 : decode cX9_clear 36 = .ok (.iload_n 1, 1) := by decide +kernel
theorem dX9_clear_37 : decode cX9_clear 37 = .ok (.invokevirtual 74, 3) := by decide +kernel
theorem dX9_clear_40 : decode cX9_clear 40 = .ok (.pop, 1) := by decide +kernel
theorem dX9_clear_41 : decode cX9_clear 41 = .ok (.iload_n 2, 1) := by decide +kernel
theorem dX9_clear_42 : decode cX9_clear 42 = .ok (.ireturn, 1) := by decide +kernel
set_option maxRecDepth 20000 in
theorem ggX9_copy_X9_isSet : GoodIn wsX9_copy wsX9_isSet := goodIn_r _ [4, 5, 6, 3, 7] (by decide +kernel) (by decide +kernel)
set_option maxRecDepth 20000 in
theorem gX9_copy_X9_isSet : GoodIn wsX9_copy (va_wsS RX9 61 yX9_isSet wsX9_isSet) := goodIn_app (goodIn_of _ (by decide +kernel)) ggX9_copy_X9_isSet
set_option maxRecDepth 20000 in
theorem ggX9_copy_X9_refused : GoodIn wsX9_copy wsX9_refused := goodIn_r _ [11, 12, 46, 47, 48, 49, 50, 51, 52, 53, 54, 55] (by decide +kernel) (by decide +kernel)
set_option maxRecDepth 20000 in
theorem gX9_copy_X9_refused : GoodIn wsX9_copy (wsV RX9 39 RX9 yX9_refused wsX9_refused) := goodIn_app (goodIn_of _ (by decide +kernel)) ggX9_copy_X9_refused
set_option maxRecDepth 20000 in
theorem ggX9_copy_X9_saves : GoodIn wsX9_copy wsX9_saves := goodIn_r _ [16, 17, 18, 19, 46, 47, 48, 49, 50, 51, 52, 53, 54, 55] (by decide +kernel) (by decide +kernel)
set_option maxRecDepth 20000 in
theorem gX9_copy_X9_saves : GoodIn wsX9_copy (wsV RX9 67 RX9 yX9_saves wsX9_saves) := goodIn_app (goodIn_of _ (by decide +kernel)) ggX9_copy_X9_saves
set_option maxRecDepth 20000 in
theorem ggX9_copy_X9_takes : GoodIn wsX9_copy wsX9_takes := goodIn_r _ [23, 24, 25, 26, 3, 27, 28, 29, 30, 31, 32, 19, 33, 34, 35, 36, 37, 38, 39, 40, 41, 46, 47, 48, 49, 50, 51, 52, 53, 54, 55] (by decide +kernel) (by decide +kernel)
set_option maxRecDepth 20000 in
theorem gX9_copy_X9_takes : GoodIn wsX9_copy (wsV RX9 70 RX9 yX9_takes wsX9_takes) := goodIn_app (goodIn_of _ (by decide +kernel)) ggX9_copy_X9_takes
set_option maxRecDepth 20000 in
theorem ggX9_copy_X9_becomes : GoodIn wsX9_copy wsX9_becomes := goodIn_r _ [45, 19, 28, 41, 46, 47, 48, 49, 50, 51, 52, 53, 54, 55] (by decide +kernel) (by decide +kernel)
set_option maxRecDepth 20000 in
theorem gX9_copy_X9_becomes : GoodIn wsX9_copy (wsV RX9 74 RX9 yX9_becomes wsX9_becomes) := goodIn_app (goodIn_of _ (by decide +kernel)) ggX9_copy_X9_becomes
theorem dX9_copy_0 : decode cX9_copy 0 = .ok (.aload_n 0, 1) := by decide +kernel
theorem dX9_copy_1 : decode cX9_copy 1 = .ok (.iload_n 1, 1) := by decide +kernel
theorem dX9_copy_2 : decode cX9_copy 2 = .ok (.invokestatic 61, 3) := by decide +kernel
theorem dX9_copy_5 : decode cX9_copy 5 = .ok (.ifCond .eq 14, 3) := by decide +kernel
theorem dX9_copy_8 : decode cX9_copy 8 = .ok (.iload_n 2, 1) := by decide +kernel
theorem dX9_copy_9 : decode cX9_copy 9 = .ok (.invokestatic 61, 3) := by decide +kernel
theorem dX9_copy_12 : decode cX9_copy 12 = .ok (.ifCond .eq 7, 3) := by decide +kernel
theorem dX9_copy_15 : decode cX9_copy 15 = .ok (.iconst 0, 1) := by decide +kernel
theorem dX9_copy_16 : decode cX9_copy 16 = .ok (.goto 4, 3) := by decide +kernel
theorem dX9_copy_19 : decode cX9_copy 19 = .ok (.iconst 1, 1) := by decide +kernel
theorem dX9_copy_20 : decode cX9_copy 20 = .ok (.invokevirtual 39, 3) := by decide +kernel
theorem dX9_copy_23 : decode cX9_copy 23 = .ok (.ifCond .eq 5, 3) := by decide +kernel
theorem dX9_copy_26 : decode cX9_copy 26 = .ok (.iconst 0, 1) := by decide +kernel
theorem dX9_copy_27 : decode cX9_copy 27 = .ok (.ireturn, 1) := by decide +kernel
theorem dX9_copy_28 : decode cX9_copy 28 = .ok (.aload_n 0, 1) := by decide +kernel
theorem dX9_copy_29 : decode cX9_copy 29 = .ok (.invokevirtual 67, 3) := by decide +kernel
theorem dX9_copy_32 : decode cX9_copy 32 = .ok (.aload_n 0, 1) := by decide +kernel
theorem dX9_copy_33 : decode cX9_copy 33 = .ok (.iload_n 1, 1) := by decide +kernel
theorem dX9_copy_34 : decode cX9_copy 34 = .ok (.iconst (-1), 1) := by decide +kernel
theorem dX9_copy_35 : decode cX9_copy 35 = .ok (.invokevirtual 70, 3) := by decide +kernel
theorem dX9_copy_38 : decode cX9_copy 38 = .ok (.aload_n 0, 1) := by decide +kernel
theorem dX9_copy_39 : decode cX9_copy 39 = .ok (.iload_n 2, 1) := by decide +kernel
theorem dX9_copy_40 : decode cX9_copy 40 = .ok (.invokevirtual 74, 3) := by decide +kernel
theorem dX9_copy_43 : decode cX9_copy 43 = .ok (.ireturn, 1) := by decide +kernel
set_option maxRecDepth 20000 in
theorem ggX9_size_X9_isSet : GoodIn wsX9_size wsX9_isSet := goodIn_r _ [4, 5, 6, 3, 7] (by decide +kernel) (by decide +kernel)
set_option maxRecDepth 20000 in
theorem gX9_size_X9_isSet : GoodIn wsX9_size (va_wsS RX9 61 yX9_isSet wsX9_isSet) := goodIn_app (goodIn_of _ (by decide +kernel)) ggX9_size_X9_isSet
set_option maxRecDepth 20000 in
theorem ggX9_size_X9_refused : GoodIn wsX9_size wsX9_refused := goodIn_r _ [11, 12, 18, 19, 20, 21, 22, 23, 24, 25, 26, 27] (by decide +kernel) (by decide +kernel)
set_option maxRecDepth 20000 in
theorem gX9_size_X9_refused : GoodIn wsX9_size (wsV RX9 39 RX9 yX9_refused wsX9_refused) := goodIn_app (goodIn_of _ (by decide +kernel)) ggX9_size_X9_refused
set_option maxRecDepth 20000 in
theorem ggX9_size_X9_many : GoodIn wsX9_size wsX9_many := goodIn_r _ [16, 17, 18, 19, 20, 21, 22, 23, 24, 25, 26, 27] (by decide +kernel) (by decide +kernel)
set_option maxRecDepth 20000 in
theorem gX9_size_X9_many : GoodIn wsX9_size (wsV RX9 46 RX9 yX9_many wsX9_many) := goodIn_app (goodIn_of _ (by decide +kernel)) ggX9_size_X9_many
theorem dX9_size_0 : decode cX9_size 0 = .ok (.aload_n 0, 1) := by decide +kernel
theorem dX9_size_1 : decode cX9_size 1 = .ok (.iload_n 1, 1) := by decide +kernel
theorem dX9_size_2 : decode cX9_size 2 = .ok (.invokestatic 61, 3) := by decide +kernel
theorem dX9_size_5 : decode cX9_size 5 = .ok (.ifCond .eq 7, 3) := by decide +kernel
theorem dX9_size_8 : decode cX9_size 8 = .ok (.iconst 0, 1) := by decide +kernel
theorem dX9_size_9 : decode cX9_size 9 = .ok (.goto 4, 3) := by decide +kernel
theorem dX9_size_12 : decode cX9_size 12 = .ok (.iconst 1, 1) := by decide +kernel
theorem dX9_size_13 : decode cX9_size 13 = .ok (.invokevirtual 39, 3) := by decide +kernel
theorem dX9_size_16 : decode cX9_size 16 = .ok (.ifCond .eq 7, 3) := by decide +kernel
theorem dX9_size_19 : decode cX9_size 19 = .ok (.iconst 0, 1) := by decide +kernel
theorem dX9_size_20 : decode cX9_size 20 = .ok (.goto 8, 3) := by decide +kernel
theorem dX9_size_23 : decode cX9_size 23 = .ok (.aload_n 0, 1) := by decide +kernel
theorem dX9_size_24 : decode cX9_size 24 = .ok (.iload_n 1, 1) := by decide +kernel
theorem dX9_size_25 : decode cX9_size 25 = .ok (.invokevirtual 46, 3) := by decide +kernel
theorem dX9_size_28 : decode cX9_size 28 = .ok (.ireturn, 1) := by decide +kernel
set_option maxRecDepth 20000 in
theorem ggX9_mark_X9_isSet : GoodIn wsX9_mark wsX9_isSet := goodIn_r _ [4, 5, 6, 3, 7] (by decide +kernel) (by decide +kernel)
set_option maxRecDepth 20000 in
theorem gX9_mark_X9_isSet : GoodIn wsX9_mark (va_wsS RX9 61 yX9_isSet wsX9_isSet) := goodIn_app (goodIn_of _ (by decide +kernel)) ggX9_mark_X9_isSet
set_option maxRecDepth 20000 in
theorem ggX9_mark_X9_many : GoodIn wsX9_mark wsX9_many := goodIn_r _ [11, 12, 22, 23, 24, 25, 26, 27, 28, 29, 30, 31] (by decide +kernel) (by decide +kernel)
set_option maxRecDepth 20000 in
theorem gX9_mark_X9_many : GoodIn wsX9_mark (wsV RX9 46 RX9 yX9_many wsX9_many) := goodIn_app (goodIn_of _ (by decide +kernel)) ggX9_mark_X9_many
set_option maxRecDepth 20000 in
theorem ggX9_mark_X9_within : GoodIn wsX9_mark wsX9_within := goodIn_r _ [7] (by decide +kernel) (by decide +kernel)
set_option maxRecDepth 20000 in
theorem gX9_mark_X9_within : GoodIn wsX9_mark (va_wsS RX9 32 yX9_within wsX9_within) := goodIn_app (goodIn_of _ (by decide +kernel)) ggX9_mark_X9_within
set_option maxRecDepth 20000 in
theorem ggX9_mark_X9_refused : GoodIn wsX9_mark wsX9_refused := goodIn_r _ [16, 17, 22, 23, 24, 25, 26, 27, 28, 29, 30, 31] (by decide +kernel) (by decide +kernel)
set_option maxRecDepth 20000 in
theorem gX9_mark_X9_refused : GoodIn wsX9_mark (wsV RX9 39 RX9 yX9_refused wsX9_refused) := goodIn_app (goodIn_of _ (by decide +kernel)) ggX9_mark_X9_refused
set_option maxRecDepth 20000 in
theorem ggX9_mark_X9_markAt : GoodIn wsX9_mark wsX9_markAt := goodIn_r _ [21, 12, 22, 23, 24, 25, 26, 27, 28, 29, 30, 31] (by decide +kernel) (by decide +kernel)
set_option maxRecDepth 20000 in
theorem gX9_mark_X9_markAt : GoodIn wsX9_mark (wsV RX9 50 RX9 yX9_markAt wsX9_markAt) := goodIn_app (goodIn_of _ (by decide +kernel)) ggX9_mark_X9_markAt
theorem dX9_mark_0 : decode cX9_mark 0 = .ok (.aload_n 0, 1) := by decide +kernel
theorem dX9_mark_1 : decode cX9_mark 1 = .ok (.iload_n 1, 1) := by decide +kernel
theorem dX9_mark_2 : decode cX9_mark 2 = .ok (.invokestatic 61, 3) := by decide +kernel
theorem dX9_mark_5 : decode cX9_mark 5 = .ok (.ifCond .eq 22, 3) := by decide +kernel
theorem dX9_mark_8 : decode cX9_mark 8 = .ok (.iload_n 2, 1) := by decide +kernel
theorem dX9_mark_9 : decode cX9_mark 9 = .ok (.iconst 0, 1) := by decide +kernel
theorem dX9_mark_10 : decode cX9_mark 10 = .ok (.aload_n 0, 1) := by decide +kernel
theorem dX9_mark_11 : decode cX9_mark 11 = .ok (.iload_n 1, 1) := by decide +kernel
theorem dX9_mark_12 : decode cX9_mark 12 = .ok (.invokevirtual 46, 3) := by decide +kernel
theorem dX9_mark_15 : decode cX9_mark 15 = .ok (.iconst 1, 1) := by decide +kernel
theorem dX9_mark_16 : decode cX9_mark 16 = .ok (.isub, 1) := by decide +kernel
theorem dX9_mark_17 : decode cX9_mark 17 = .ok (.invokestatic 32, 3) := by decide +kernel
theorem dX9_mark_20 : decode cX9_mark 20 = .ok (.ifCond .eq 7, 3) := by decide +kernel
theorem dX9_mark_23 : decode cX9_mark 23 = .ok (.iconst 0, 1) := by decide +kernel
theorem dX9_mark_24 : decode cX9_mark 24 = .ok (.goto 4, 3) := by decide +kernel
theorem dX9_mark_27 : decode cX9_mark 27 = .ok (.iconst 1, 1) := by decide +kernel
theorem dX9_mark_28 : decode cX9_mark 28 = .ok (.invokevirtual 39, 3) := by decide +kernel
theorem dX9_mark_31 : decode cX9_mark 31 = .ok (.ifCond .eq 7, 3) := by decide +kernel
theorem dX9_mark_34 : decode cX9_mark 34 = .ok (.iconst 0, 1) := by decide +kernel
theorem dX9_mark_35 : decode cX9_mark 35 = .ok (.goto 9, 3) := by decide +kernel
theorem dX9_mark_38 : decode cX9_mark 38 = .ok (.aload_n 0, 1) := by decide +kernel
theorem dX9_mark_39 : decode cX9_mark 39 = .ok (.iload_n 1, 1) := by decide +kernel
theorem dX9_mark_40 : decode cX9_mark 40 = .ok (.iload_n 2, 1) := by decide +kernel
theorem dX9_mark_41 : decode cX9_mark 41 = .ok (.invokevirtual 50, 3) := by decide +kernel
theorem dX9_mark_44 : decode cX9_mark 44 = .ok (.ireturn, 1) := by decide +kernel
set_option maxRecDepth 20000 in
theorem ggX9_length_X9_isSet : GoodIn wsX9_length wsX9_isSet := goodIn_r _ [4, 5, 6, 3, 7] (by decide +kernel) (by decide +kernel)
set_option maxRecDepth 20000 in
theorem gX9_length_X9_isSet : GoodIn wsX9_length (va_wsS RX9 61 yX9_isSet wsX9_isSet) := goodIn_app (goodIn_of _ (by decide +kernel)) ggX9_length_X9_isSet
set_option maxRecDepth 20000 in
theorem ggX9_length_X9_refused : GoodIn wsX9_length wsX9_refused := goodIn_r _ [11, 12, 26, 27, 28, 29, 30, 31, 32, 33, 34, 35] (by decide +kernel) (by decide +kernel)
set_option maxRecDepth 20000 in
theorem gX9_length_X9_refused : GoodIn wsX9_length (wsV RX9 39 RX9 yX9_refused wsX9_refused) := goodIn_app (goodIn_of _ (by decide +kernel)) ggX9_length_X9_refused
set_option maxRecDepth 20000 in
theorem ggX9_length_X9_lengthOf : GoodIn wsX9_length wsX9_lengthOf := goodIn_r _ [16, 17, 18, 19, 3, 20, 21, 22, 23, 24, 25, 26, 27, 28, 29, 30, 31, 32, 33, 34, 35] (by decide +kernel) (by decide +kernel)
set_option maxRecDepth 20000 in
theorem gX9_length_X9_lengthOf : GoodIn wsX9_length (wsV RX9 77 RX9 yX9_lengthOf wsX9_lengthOf) := goodIn_app (goodIn_of _ (by decide +kernel)) ggX9_length_X9_lengthOf
theorem dX9_length_0 : decode cX9_length 0 = .ok (.aload_n 0, 1) := by decide +kernel
theorem dX9_length_1 : decode cX9_length 1 = .ok (.iload_n 1, 1) := by decide +kernel
theorem dX9_length_2 : decode cX9_length 2 = .ok (.invokestatic 61, 3) := by decide +kernel
theorem dX9_length_5 : decode cX9_length 5 = .ok (.ifCond .eq 7, 3) := by decide +kernel
theorem dX9_length_8 : decode cX9_length 8 = .ok (.iconst 0, 1) := by decide +kernel
theorem dX9_length_9 : decode cX9_length 9 = .ok (.goto 4, 3) := by decide +kernel
theorem dX9_length_12 : decode cX9_length 12 = .ok (.iconst 1, 1) := by decide +kernel
theorem dX9_length_13 : decode cX9_length 13 = .ok (.invokevirtual 39, 3) := by decide +kernel
theorem dX9_length_16 : decode cX9_length 16 = .ok (.ifCond .eq 7, 3) := by decide +kernel
theorem dX9_length_19 : decode cX9_length 19 = .ok (.iconst 0, 1) := by decide +kernel
theorem dX9_length_20 : decode cX9_length 20 = .ok (.goto 8, 3) := by decide +kernel
theorem dX9_length_23 : decode cX9_length 23 = .ok (.aload_n 0, 1) := by decide +kernel
theorem dX9_length_24 : decode cX9_length 24 = .ok (.iload_n 1, 1) := by decide +kernel
theorem dX9_length_25 : decode cX9_length 25 = .ok (.invokevirtual 77, 3) := by decide +kernel
theorem dX9_length_28 : decode cX9_length 28 = .ok (.ireturn, 1) := by decide +kernel
set_option maxRecDepth 20000 in
theorem ggX9_pairs_X9_many : GoodIn wsX9_pairs wsX9_many := goodIn_r _ [5, 6, 11, 12, 13, 14, 15, 16, 17, 18, 19, 20] (by decide +kernel) (by decide +kernel)
set_option maxRecDepth 20000 in
theorem gX9_pairs_X9_many : GoodIn wsX9_pairs (wsV RX9 46 RX9 yX9_many wsX9_many) := goodIn_app (goodIn_of _ (by decide +kernel)) ggX9_pairs_X9_many
set_option maxRecDepth 20000 in
theorem ggX9_pairs_X9_markAt : GoodIn wsX9_pairs wsX9_markAt := goodIn_r _ [10, 6, 11, 12, 13, 14, 15, 16, 17, 18, 19, 20] (by decide +kernel) (by decide +kernel)
set_option maxRecDepth 20000 in
theorem gX9_pairs_X9_markAt : GoodIn wsX9_pairs (wsV RX9 50 RX9 yX9_markAt wsX9_markAt) := goodIn_app (goodIn_of _ (by decide +kernel)) ggX9_pairs_X9_markAt
theorem dX9_pairs_0 : decode cX9_pairs 0 = .ok (.iconst 0, 1) := by decide +kernel
theorem dX9_pairs_1 : decode cX9_pairs 1 = .ok (.istore_n 3, 1) := by decide +kernel
theorem dX9_pairs_2 : decode cX9_pairs 2 = .ok (.iconst 0, 1) := by decide +kernel
theorem dX9_pairs_3 : decode cX9_pairs 3 = .ok (.istore 4, 2) := by decide +kernel
theorem dX9_pairs_5 : decode cX9_pairs 5 = .ok (.iload 4, 2) := by decide +kernel
theorem dX9_pairs_7 : decode cX9_pairs 7 = .ok (.aload_n 0, 1) := by decide +kernel
theorem dX9_pairs_8 : decode cX9_pairs 8 = .ok (.iload_n 1, 1) := by decide +kernel
theorem dX9_pairs_9 : decode cX9_pairs 9 = .ok (.invokevirtual 46, 3) := by decide +kernel
theorem dX9_pairs_12 : decode cX9_pairs 12 = .ok (.if_icmp .ge 52, 3) := by decide +kernel
theorem dX9_pairs_15 : decode cX9_pairs 15 = .ok (.iconst 0, 1) := by decide +kernel
theorem dX9_pairs_16 : decode cX9_pairs 16 = .ok (.istore 5, 2) := by decide +kernel
theorem dX9_pairs_18 : decode cX9_pairs 18 = .ok (.iload 5, 2) := by decide +kernel
theorem dX9_pairs_20 : decode cX9_pairs 20 = .ok (.iload 4, 2) := by decide +kernel
theorem dX9_pairs_22 : decode cX9_pairs 22 = .ok (.if_icmp .ge 36, 3) := by decide +kernel
theorem dX9_pairs_25 : decode cX9_pairs 25 = .ok (.iload_n 3, 1) := by decide +kernel
theorem dX9_pairs_26 : decode cX9_pairs 26 = .ok (.aload_n 0, 1) := by decide +kernel
theorem dX9_pairs_27 : decode cX9_pairs 27 = .ok (.iload_n 1, 1) := by decide +kernel
theorem dX9_pairs_28 : decode cX9_pairs 28 = .ok (.iload 4, 2) := by decide +kernel
theorem dX9_pairs_30 : decode cX9_pairs 30 = .ok (.invokevirtual 50, 3) := by decide +kernel
theorem dX9_pairs_33 : decode cX9_pairs 33 = .ok (.aload_n 0, 1) := by decide +kernel
theorem dX9_pairs_34 : decode cX9_pairs 34 = .ok (.iload_n 1, 1) := by decide +kernel
theorem dX9_pairs_35 : decode cX9_pairs 35 = .ok (.iload 5, 2) := by decide +kernel
theorem dX9_pairs_37 : decode cX9_pairs 37 = .ok (.invokevirtual 50, 3) := by decide +kernel
theorem dX9_pairs_40 : decode cX9_pairs 40 = .ok (.isub, 1) := by decide +kernel
theorem dX9_pairs_41 : decode cX9_pairs 41 = .ok (.iload_n 2, 1) := by decide +kernel
theorem dX9_pairs_42 : decode cX9_pairs 42 = .ok (.if_icmp .ne 7, 3) := by decide +kernel
theorem dX9_pairs_45 : decode cX9_pairs 45 = .ok (.iconst 1, 1) := by decide +kernel
theorem dX9_pairs_46 : decode cX9_pairs 46 = .ok (.goto 4, 3) := by decide +kernel
theorem dX9_pairs_49 : decode cX9_pairs 49 = .ok (.iconst 0, 1) := by decide +kernel
theorem dX9_pairs_50 : decode cX9_pairs 50 = .ok (.iadd, 1) := by decide +kernel
theorem dX9_pairs_51 : decode cX9_pairs 51 = .ok (.istore_n 3, 1) := by decide +kernel
theorem dX9_pairs_52 : decode cX9_pairs 52 = .ok (.iinc 5 1, 3) := by decide +kernel
theorem dX9_pairs_55 : decode cX9_pairs 55 = .ok (.goto (-37), 3) := by decide +kernel
theorem dX9_pairs_58 : decode cX9_pairs 58 = .ok (.iinc 4 1, 3) := by decide +kernel
theorem dX9_pairs_61 : decode cX9_pairs 61 = .ok (.goto (-56), 3) := by decide +kernel
theorem dX9_pairs_64 : decode cX9_pairs 64 = .ok (.iload_n 3, 1) := by decide +kernel
theorem dX9_pairs_65 : decode cX9_pairs 65 = .ok (.ireturn, 1) := by decide +kernel
set_option maxRecDepth 20000 in
theorem ggX9_multiplicity_X9_isSet : GoodIn wsX9_multiplicity wsX9_isSet := goodIn_r _ [4, 5, 6, 3, 7] (by decide +kernel) (by decide +kernel)
set_option maxRecDepth 20000 in
theorem gX9_multiplicity_X9_isSet : GoodIn wsX9_multiplicity (va_wsS RX9 61 yX9_isSet wsX9_isSet) := goodIn_app (goodIn_of _ (by decide +kernel)) ggX9_multiplicity_X9_isSet
set_option maxRecDepth 20000 in
theorem ggX9_multiplicity_X9_within : GoodIn wsX9_multiplicity wsX9_within := goodIn_r _ [7] (by decide +kernel) (by decide +kernel)
set_option maxRecDepth 20000 in
theorem gX9_multiplicity_X9_within : GoodIn wsX9_multiplicity (va_wsS RX9 32 yX9_within wsX9_within) := goodIn_app (goodIn_of _ (by decide +kernel)) ggX9_multiplicity_X9_within
set_option maxRecDepth 20000 in
theorem ggX9_multiplicity_X9_refused : GoodIn wsX9_multiplicity wsX9_refused := goodIn_r _ [11, 12, 26, 27, 28, 29, 30, 31, 32, 33, 34, 35] (by decide +kernel) (by decide +kernel)
set_option maxRecDepth 20000 in
theorem gX9_multiplicity_X9_refused : GoodIn wsX9_multiplicity (wsV RX9 39 RX9 yX9_refused wsX9_refused) := goodIn_app (goodIn_of _ (by decide +kernel)) ggX9_multiplicity_X9_refused
set_option maxRecDepth 20000 in
theorem ggX9_multiplicity_X9_pairs : GoodIn wsX9_multiplicity wsX9_pairs := goodIn_r _ [16, 17, 18, 19, 3, 20, 21, 22, 23, 24, 25, 26, 27, 28, 29, 30, 31, 32, 33, 34, 35] (by decide +kernel) (by decide +kernel)
set_option maxRecDepth 20000 in
theorem gX9_multiplicity_X9_pairs : GoodIn wsX9_multiplicity (wsV RX9 80 RX9 yX9_pairs wsX9_pairs) := goodIn_app (goodIn_of _ (by decide +kernel)) ggX9_multiplicity_X9_pairs
theorem dX9_multiplicity_0 : decode cX9_multiplicity 0 = .ok (.aload_n 0, 1) := by decide +kernel
theorem dX9_multiplicity_1 : decode cX9_multiplicity 1 = .ok (.iload_n 1, 1) := by decide +kernel
theorem dX9_multiplicity_2 : decode cX9_multiplicity 2 = .ok (.invokestatic 61, 3) := by decide +kernel
theorem dX9_multiplicity_5 : decode cX9_multiplicity 5 = .ok (.ifCond .ne 7, 3) := by decide +kernel
theorem dX9_multiplicity_8 : decode cX9_multiplicity 8 = .ok (.iconst 1, 1) := by decide +kernel
theorem dX9_multiplicity_9 : decode cX9_multiplicity 9 = .ok (.goto 19, 3) := by decide +kernel
theorem dX9_multiplicity_12 : decode cX9_multiplicity 12 = .ok (.iload_n 2, 1) := by decide +kernel
theorem dX9_multiplicity_13 : decode cX9_multiplicity 13 = .ok (.iconst 1, 1) := by decide +kernel
theorem dX9_multiplicity_14 : decode cX9_multiplicity 14 = .ok (.sipush 2000, 3) := by decide +kernel
theorem dX9_multiplicity_17 : decode cX9_multiplicity 17 = .ok (.invokestatic 32, 3) := by decide +kernel
theorem dX9_multiplicity_20 : decode cX9_multiplicity 20 = .ok (.ifCond .eq 7, 3) := by decide +kernel
theorem dX9_multiplicity_23 : decode cX9_multiplicity 23 = .ok (.iconst 0, 1) := by decide +kernel
theorem dX9_multiplicity_24 : decode cX9_multiplicity 24 = .ok (.goto 4, 3) := by decide +kernel
theorem dX9_multiplicity_27 : decode cX9_multiplicity 27 = .ok (.iconst 2, 1) := by decide +kernel
theorem dX9_multiplicity_28 : decode cX9_multiplicity 28 = .ok (.invokevirtual 39, 3) := by decide +kernel
theorem dX9_multiplicity_31 : decode cX9_multiplicity 31 = .ok (.ifCond .eq 7, 3) := by decide +kernel
theorem dX9_multiplicity_34 : decode cX9_multiplicity 34 = .ok (.iconst 0, 1) := by decide +kernel
theorem dX9_multiplicity_35 : decode cX9_multiplicity 35 = .ok (.goto 9, 3) := by decide +kernel
theorem dX9_multiplicity_38 : decode cX9_multiplicity 38 = .ok (.aload_n 0, 1) := by decide +kernel
theorem dX9_multiplicity_39 : decode cX9_multiplicity 39 = .ok (.iload_n 1, 1) := by decide +kernel
theorem dX9_multiplicity_40 : decode cX9_multiplicity 40 = .ok (.iload_n 2, 1) := by decide +kernel
theorem dX9_multiplicity_41 : decode cX9_multiplicity 41 = .ok (.invokevirtual 80, 3) := by decide +kernel
theorem dX9_multiplicity_44 : decode cX9_multiplicity 44 = .ok (.ireturn, 1) := by decide +kernel
set_option maxRecDepth 20000 in
theorem ggX9_counts_X9_many : GoodIn wsX9_counts wsX9_many := goodIn_r _ [6, 7, 12, 13, 14, 15, 16, 17, 18, 19, 20, 21] (by decide +kernel) (by decide +kernel)
set_option maxRecDepth 20000 in
theorem gX9_counts_X9_many : GoodIn wsX9_counts (wsV RX9 46 RX9 yX9_many wsX9_many) := goodIn_app (goodIn_of _ (by decide +kernel)) ggX9_counts_X9_many
set_option maxRecDepth 20000 in
theorem ggX9_counts_X9_markAt : GoodIn wsX9_counts wsX9_markAt := goodIn_r _ [11, 7, 12, 13, 14, 15, 16, 17, 18, 19, 20, 21] (by decide +kernel) (by decide +kernel)
set_option maxRecDepth 20000 in
theorem gX9_counts_X9_markAt : GoodIn wsX9_counts (wsV RX9 50 RX9 yX9_markAt wsX9_markAt) := goodIn_app (goodIn_of _ (by decide +kernel)) ggX9_counts_X9_markAt
theorem dX9_counts_0 : decode cX9_counts 0 = .ok (.iconst 0, 1) := by decide +kernel
theorem dX9_counts_1 : decode cX9_counts 1 = .ok (.istore_n 2, 1) := by decide +kernel
theorem dX9_counts_2 : decode cX9_counts 2 = .ok (.iload_n 2, 1) := by decide +kernel
theorem dX9_counts_3 : decode cX9_counts 3 = .ok (.aload_n 0, 1) := by decide +kernel
theorem dX9_counts_4 : decode cX9_counts 4 = .ok (.iload_n 1, 1) := by decide +kernel
theorem dX9_counts_5 : decode cX9_counts 5 = .ok (.invokevirtual 46, 3) := by decide +kernel
theorem dX9_counts_8 : decode cX9_counts 8 = .ok (.if_icmp .ge 44, 3) := by decide +kernel
theorem dX9_counts_11 : decode cX9_counts 11 = .ok (.iconst 0, 1) := by decide +kernel
theorem dX9_counts_12 : decode cX9_counts 12 = .ok (.istore_n 3, 1) := by decide +kernel
theorem dX9_counts_13 : decode cX9_counts 13 = .ok (.iload_n 3, 1) := by decide +kernel
theorem dX9_counts_14 : decode cX9_counts 14 = .ok (.iload_n 2, 1) := by decide +kernel
theorem dX9_counts_15 : decode cX9_counts 15 = .ok (.if_icmp .ge 31, 3) := by decide +kernel
theorem dX9_counts_18 : decode cX9_counts 18 = .ok (.aload_n 0, 1) := by decide +kernel
theorem dX9_counts_19 : decode cX9_counts 19 = .ok (.getfield 19, 3) := by decide +kernel
theorem dX9_counts_22 : decode cX9_counts 22 = .ok (.aload_n 0, 1) := by decide +kernel
theorem dX9_counts_23 : decode cX9_counts 23 = .ok (.iload_n 1, 1) := by decide +kernel
theorem dX9_counts_24 : decode cX9_counts 24 = .ok (.iload_n 2, 1) := by decide +kernel
theorem dX9_counts_25 : decode cX9_counts 25 = .ok (.invokevirtual 50, 3) := by decide +kernel
theorem dX9_counts_28 : decode cX9_counts 28 = .ok (.aload_n 0, 1) := by decide +kernel
theorem dX9_counts_29 : decode cX9_counts 29 = .ok (.iload_n 1, 1) := by decide +kernel
theorem dX9_counts_30 : decode cX9_counts 30 = .ok (.iload_n 3, 1) := by decide +kernel
theorem dX9_counts_31 : decode cX9_counts 31 = .ok (.invokevirtual 50, 3) := by decide +kernel
theorem dX9_counts_34 : decode cX9_counts 34 = .ok (.isub, 1) := by decide +kernel
theorem dX9_counts_35 : decode cX9_counts 35 = .ok (.dup2, 1) := by decide +kernel
theorem dX9_counts_36 : decode cX9_counts 36 = .ok (.iaload, 1) := by decide +kernel
theorem dX9_counts_37 : decode cX9_counts 37 = .ok (.iconst 1, 1) := by decide +kernel
theorem dX9_counts_38 : decode cX9_counts 38 = .ok (.iadd, 1) := by decide +kernel
theorem dX9_counts_39 : decode cX9_counts 39 = .ok (.iastore, 1) := by decide +kernel
theorem dX9_counts_40 : decode cX9_counts 40 = .ok (.iinc 3 1, 3) := by decide +kernel
theorem dX9_counts_43 : decode cX9_counts 43 = .ok (.goto (-30), 3) := by decide +kernel
theorem dX9_counts_46 : decode cX9_counts 46 = .ok (.iinc 2 1, 3) := by decide +kernel
theorem dX9_counts_49 : decode cX9_counts 49 = .ok (.goto (-47), 3) := by decide +kernel
theorem dX9_counts_52 : decode cX9_counts 52 = .ok (.return_, 1) := by decide +kernel
set_option maxRecDepth 20000 in
theorem ggX9_laysOften_X9_counts : GoodIn wsX9_laysOften wsX9_counts := goodIn_r _ [6, 1, 7, 8, 9, 5, 10, 11, 12, 13, 14, 15, 16, 17, 18, 19, 20, 21, 22, 23, 24, 25] (by decide +kernel) (by decide +kernel)
set_option maxRecDepth 20000 in
theorem gX9_laysOften_X9_counts : GoodIn wsX9_laysOften (wsV RX9 83 RX9 yX9_counts wsX9_counts) := goodIn_app (goodIn_of _ (by decide +kernel)) ggX9_laysOften_X9_counts
theorem dX9_laysOften_0 : decode cX9_laysOften 0 = .ok (.iconst 0, 1) := by decide +kernel
theorem dX9_laysOften_1 : decode cX9_laysOften 1 = .ok (.istore_n 2, 1) := by decide +kernel
theorem dX9_laysOften_2 : decode cX9_laysOften 2 = .ok (.iload_n 2, 1) := by decide +kernel
theorem dX9_laysOften_3 : decode cX9_laysOften 3 = .ok (.sipush 2000, 3) := by decide +kernel
theorem dX9_laysOften_6 : decode cX9_laysOften 6 = .ok (.if_icmp .gt 16, 3) := by decide +kernel
theorem dX9_laysOften_9 : decode cX9_laysOften 9 = .ok (.aload_n 0, 1) := by decide +kernel
theorem dX9_laysOften_10 : decode cX9_laysOften 10 = .ok (.getfield 19, 3) := by decide +kernel
theorem dX9_laysOften_13 : decode cX9_laysOften 13 = .ok (.iload_n 2, 1) := by decide +kernel
theorem dX9_laysOften_14 : decode cX9_laysOften 14 = .ok (.iconst 0, 1) := by decide +kernel
theorem dX9_laysOften_15 : decode cX9_laysOften 15 = .ok (.iastore, 1) := by decide +kernel
theorem dX9_laysOften_16 : decode cX9_laysOften 16 = .ok (.iinc 2 1, 3) := by decide +kernel
theorem dX9_laysOften_19 : decode cX9_laysOften 19 = .ok (.goto (-17), 3) := by decide +kernel
theorem dX9_laysOften_22 : decode cX9_laysOften 22 = .ok (.iconst 0, 1) := by decide +kernel
theorem dX9_laysOften_23 : decode cX9_laysOften 23 = .ok (.istore_n 2, 1) := by decide +kernel
theorem dX9_laysOften_24 : decode cX9_laysOften 24 = .ok (.iload_n 2, 1) := by decide +kernel
theorem dX9_laysOften_25 : decode cX9_laysOften 25 = .ok (.iconst 4, 1) := by decide +kernel
theorem dX9_laysOften_26 : decode cX9_laysOften 26 = .ok (.if_icmp .ge 23, 3) := by decide +kernel
theorem dX9_laysOften_29 : decode cX9_laysOften 29 = .ok (.iload_n 1, 1) := by decide +kernel
theorem dX9_laysOften_30 : decode cX9_laysOften 30 = .ok (.iload_n 2, 1) := by decide +kernel
theorem dX9_laysOften_31 : decode cX9_laysOften 31 = .ok (.ishr, 1) := by decide +kernel
theorem dX9_laysOften_32 : decode cX9_laysOften 32 = .ok (.iconst 1, 1) := by decide +kernel
theorem dX9_laysOften_33 : decode cX9_laysOften 33 = .ok (.iand, 1) := by decide +kernel
theorem dX9_laysOften_34 : decode cX9_laysOften 34 = .ok (.iconst 1, 1) := by decide +kernel
theorem dX9_laysOften_35 : decode cX9_laysOften 35 = .ok (.if_icmp .ne 8, 3) := by decide +kernel
theorem dX9_laysOften_38 : decode cX9_laysOften 38 = .ok (.aload_n 0, 1) := by decide +kernel
theorem dX9_laysOften_39 : decode cX9_laysOften 39 = .ok (.iload_n 2, 1) := by decide +kernel
theorem dX9_laysOften_40 : decode cX9_laysOften 40 = .ok (.invokevirtual 83, 3) := by decide +kernel
theorem dX9_laysOften_43 : decode cX9_laysOften 43 = .ok (.iinc 2 1, 3) := by decide +kernel
theorem dX9_laysOften_46 : decode cX9_laysOften 46 = .ok (.goto (-22), 3) := by decide +kernel
theorem dX9_laysOften_49 : decode cX9_laysOften 49 = .ok (.return_, 1) := by decide +kernel
set_option maxRecDepth 20000 in
theorem ggX9_areOnce_X9_laysOften : GoodIn wsX9_areOnce wsX9_laysOften := goodIn_r _ [6, 1, 7, 8, 9, 5, 10, 11, 12, 13, 14, 15, 16, 17, 18, 19, 20, 21, 22, 23, 24, 25, 26, 27, 28, 29] (by decide +kernel) (by decide +kernel)
set_option maxRecDepth 20000 in
theorem gX9_areOnce_X9_laysOften : GoodIn wsX9_areOnce (wsV RX9 86 RX9 yX9_laysOften wsX9_laysOften) := goodIn_app (goodIn_of _ (by decide +kernel)) ggX9_areOnce_X9_laysOften
theorem dX9_areOnce_0 : decode cX9_areOnce 0 = .ok (.aload_n 0, 1) := by decide +kernel
theorem dX9_areOnce_1 : decode cX9_areOnce 1 = .ok (.iload_n 1, 1) := by decide +kernel
theorem dX9_areOnce_2 : decode cX9_areOnce 2 = .ok (.invokevirtual 86, 3) := by decide +kernel
theorem dX9_areOnce_5 : decode cX9_areOnce 5 = .ok (.iconst 1, 1) := by decide +kernel
theorem dX9_areOnce_6 : decode cX9_areOnce 6 = .ok (.istore_n 2, 1) := by decide +kernel
theorem dX9_areOnce_7 : decode cX9_areOnce 7 = .ok (.iconst 1, 1) := by decide +kernel
theorem dX9_areOnce_8 : decode cX9_areOnce 8 = .ok (.istore_n 3, 1) := by decide +kernel
theorem dX9_areOnce_9 : decode cX9_areOnce 9 = .ok (.iload_n 3, 1) := by decide +kernel
theorem dX9_areOnce_10 : decode cX9_areOnce 10 = .ok (.sipush 2000, 3) := by decide +kernel
theorem dX9_areOnce_13 : decode cX9_areOnce 13 = .ok (.if_icmp .gt 29, 3) := by decide +kernel
theorem dX9_areOnce_16 : decode cX9_areOnce 16 = .ok (.iload_n 2, 1) := by decide +kernel
theorem dX9_areOnce_17 : decode cX9_areOnce 17 = .ok (.ifCond .eq 17, 3) := by decide +kernel
theorem dX9_areOnce_20 : decode cX9_areOnce 20 = .ok (.aload_n 0, 1) := by decide +kernel
theorem dX9_areOnce_21 : decode cX9_areOnce 21 = .ok (.getfield 19, 3) := by decide +kernel
theorem dX9_areOnce_24 : decode cX9_areOnce 24 = .ok (.iload_n 3, 1) := by decide +kernel
theorem dX9_areOnce_25 : decode cX9_areOnce 25 = .ok (.iaload, 1) := by decide +kernel
theorem dX9_areOnce_26 : decode cX9_areOnce 26 = .ok (.iconst 2, 1) := by decide +kernel
theorem dX9_areOnce_27 : decode cX9_areOnce 27 = .ok (.if_icmp .ge 7, 3) := by decide +kernel
theorem dX9_areOnce_30 : decode cX9_areOnce 30 = .ok (.iconst 1, 1) := by decide +kernel
theorem dX9_areOnce_31 : decode cX9_areOnce 31 = .ok (.goto 4, 3) := by decide +kernel
theorem dX9_areOnce_34 : decode cX9_areOnce 34 = .ok (.iconst 0, 1) := by decide +kernel
theorem dX9_areOnce_35 : decode cX9_areOnce 35 = .ok (.istore_n 2, 1) := by decide +kernel
theorem dX9_areOnce_36 : decode cX9_areOnce 36 = .ok (.iinc 3 1, 3) := by decide +kernel
theorem dX9_areOnce_39 : decode cX9_areOnce 39 = .ok (.goto (-30), 3) := by decide +kernel
theorem dX9_areOnce_42 : decode cX9_areOnce 42 = .ok (.iload_n 2, 1) := by decide +kernel
theorem dX9_areOnce_43 : decode cX9_areOnce 43 = .ok (.ireturn, 1) := by decide +kernel
set_option maxRecDepth 20000 in
theorem ggX9_isRuler_X9_isSet : GoodIn wsX9_isRuler wsX9_isSet := goodIn_r _ [4, 5, 6, 3, 7] (by decide +kernel) (by decide +kernel)
set_option maxRecDepth 20000 in
theorem gX9_isRuler_X9_isSet : GoodIn wsX9_isRuler (va_wsS RX9 61 yX9_isSet wsX9_isSet) := goodIn_app (goodIn_of _ (by decide +kernel)) ggX9_isRuler_X9_isSet
set_option maxRecDepth 20000 in
theorem ggX9_isRuler_X9_refused : GoodIn wsX9_isRuler wsX9_refused := goodIn_r _ [11, 12, 35, 36, 37, 38, 39, 40, 41, 42, 43, 44] (by decide +kernel) (by decide +kernel)
set_option maxRecDepth 20000 in
theorem gX9_isRuler_X9_refused : GoodIn wsX9_isRuler (wsV RX9 39 RX9 yX9_refused wsX9_refused) := goodIn_app (goodIn_of _ (by decide +kernel)) ggX9_isRuler_X9_refused
set_option maxRecDepth 20000 in
theorem ggX9_isRuler_X9_areOnce : GoodIn wsX9_isRuler wsX9_areOnce := goodIn_r _ [16, 17, 18, 19, 20, 3, 21, 22, 23, 24, 25, 26, 27, 28, 29, 30, 31, 32, 33, 34, 35, 36, 37, 38, 39, 40, 41, 42, 43, 44] (by decide +kernel) (by decide +kernel)
set_option maxRecDepth 20000 in
theorem gX9_isRuler_X9_areOnce : GoodIn wsX9_isRuler (wsV RX9 89 RX9 yX9_areOnce wsX9_areOnce) := goodIn_app (goodIn_of _ (by decide +kernel)) ggX9_isRuler_X9_areOnce
theorem dX9_isRuler_0 : decode cX9_isRuler 0 = .ok (.aload_n 0, 1) := by decide +kernel
theorem dX9_isRuler_1 : decode cX9_isRuler 1 = .ok (.iload_n 1, 1) := by decide +kernel
theorem dX9_isRuler_2 : decode cX9_isRuler 2 = .ok (.invokestatic 61, 3) := by decide +kernel
theorem dX9_isRuler_5 : decode cX9_isRuler 5 = .ok (.ifCond .eq 7, 3) := by decide +kernel
theorem dX9_isRuler_8 : decode cX9_isRuler 8 = .ok (.iconst 0, 1) := by decide +kernel
theorem dX9_isRuler_9 : decode cX9_isRuler 9 = .ok (.goto 4, 3) := by decide +kernel
theorem dX9_isRuler_12 : decode cX9_isRuler 12 = .ok (.iconst 1, 1) := by decide +kernel
theorem dX9_isRuler_13 : decode cX9_isRuler 13 = .ok (.invokevirtual 39, 3) := by decide +kernel
theorem dX9_isRuler_16 : decode cX9_isRuler 16 = .ok (.ifCond .ne 17, 3) := by decide +kernel
theorem dX9_isRuler_19 : decode cX9_isRuler 19 = .ok (.aload_n 0, 1) := by decide +kernel
theorem dX9_isRuler_20 : decode cX9_isRuler 20 = .ok (.iconst 1, 1) := by decide +kernel
theorem dX9_isRuler_21 : decode cX9_isRuler 21 = .ok (.iload_n 1, 1) := by decide +kernel
theorem dX9_isRuler_22 : decode cX9_isRuler 22 = .ok (.ishl, 1) := by decide +kernel
theorem dX9_isRuler_23 : decode cX9_isRuler 23 = .ok (.invokevirtual 89, 3) := by decide +kernel
theorem dX9_isRuler_26 : decode cX9_isRuler 26 = .ok (.ifCond .eq 7, 3) := by decide +kernel
theorem dX9_isRuler_29 : decode cX9_isRuler 29 = .ok (.iconst 1, 1) := by decide +kernel
theorem dX9_isRuler_30 : decode cX9_isRuler 30 = .ok (.goto 4, 3) := by decide +kernel
theorem dX9_isRuler_33 : decode cX9_isRuler 33 = .ok (.iconst 0, 1) := by decide +kernel
theorem dX9_isRuler_34 : decode cX9_isRuler 34 = .ok (.ireturn, 1) := by decide +kernel
set_option maxRecDepth 20000 in
theorem ggX9_complete_X9_laysOften : GoodIn wsX9_complete wsX9_laysOften := goodIn_r _ [6, 1, 7, 8, 9, 5, 10, 11, 12, 13, 14, 15, 16, 17, 18, 19, 20, 21, 22, 23, 24, 25, 26, 27, 28, 29] (by decide +kernel) (by decide +kernel)
set_option maxRecDepth 20000 in
theorem gX9_complete_X9_laysOften : GoodIn wsX9_complete (wsV RX9 86 RX9 yX9_laysOften wsX9_laysOften) := goodIn_app (goodIn_of _ (by decide +kernel)) ggX9_complete_X9_laysOften
theorem dX9_complete_0 : decode cX9_complete 0 = .ok (.aload_n 0, 1) := by decide +kernel
theorem dX9_complete_1 : decode cX9_complete 1 = .ok (.iconst 1, 1) := by decide +kernel
theorem dX9_complete_2 : decode cX9_complete 2 = .ok (.iload_n 1, 1) := by decide +kernel
theorem dX9_complete_3 : decode cX9_complete 3 = .ok (.ishl, 1) := by decide +kernel
theorem dX9_complete_4 : decode cX9_complete 4 = .ok (.invokevirtual 86, 3) := by decide +kernel
theorem dX9_complete_7 : decode cX9_complete 7 = .ok (.iconst 0, 1) := by decide +kernel
theorem dX9_complete_8 : decode cX9_complete 8 = .ok (.istore_n 2, 1) := by decide +kernel
theorem dX9_complete_9 : decode cX9_complete 9 = .ok (.iload_n 2, 1) := by decide +kernel
theorem dX9_complete_10 : decode cX9_complete 10 = .ok (.sipush 2000, 3) := by decide +kernel
theorem dX9_complete_13 : decode cX9_complete 13 = .ok (.if_icmp .ge 20, 3) := by decide +kernel
theorem dX9_complete_16 : decode cX9_complete 16 = .ok (.aload_n 0, 1) := by decide +kernel
theorem dX9_complete_17 : decode cX9_complete 17 = .ok (.getfield 19, 3) := by decide +kernel
theorem dX9_complete_20 : decode cX9_complete 20 = .ok (.iload_n 2, 1) := by decide +kernel
theorem dX9_complete_21 : decode cX9_complete 21 = .ok (.iconst 1, 1) := by decide +kernel
theorem dX9_complete_22 : decode cX9_complete 22 = .ok (.iadd, 1) := by decide +kernel
theorem dX9_complete_23 : decode cX9_complete 23 = .ok (.iaload, 1) := by decide +kernel
theorem dX9_complete_24 : decode cX9_complete 24 = .ok (.ifCond .le 9, 3) := by decide +kernel
theorem dX9_complete_27 : decode cX9_complete 27 = .ok (.iinc 2 1, 3) := by decide +kernel
theorem dX9_complete_30 : decode cX9_complete 30 = .ok (.goto (-21), 3) := by decide +kernel
theorem dX9_complete_33 : decode cX9_complete 33 = .ok (.iload_n 2, 1) := by decide +kernel
theorem dX9_complete_34 : decode cX9_complete 34 = .ok (.ireturn, 1) := by decide +kernel
set_option maxRecDepth 20000 in
theorem ggX9_completeUpTo_X9_isSet : GoodIn wsX9_completeUpTo wsX9_isSet := goodIn_r _ [4, 5, 6, 3, 7] (by decide +kernel) (by decide +kernel)
set_option maxRecDepth 20000 in
theorem gX9_completeUpTo_X9_isSet : GoodIn wsX9_completeUpTo (va_wsS RX9 61 yX9_isSet wsX9_isSet) := goodIn_app (goodIn_of _ (by decide +kernel)) ggX9_completeUpTo_X9_isSet
set_option maxRecDepth 20000 in
theorem ggX9_completeUpTo_X9_refused : GoodIn wsX9_completeUpTo wsX9_refused := goodIn_r _ [11, 12, 35, 36, 37, 38, 39, 40, 41, 42, 43, 44] (by decide +kernel) (by decide +kernel)
set_option maxRecDepth 20000 in
theorem gX9_completeUpTo_X9_refused : GoodIn wsX9_completeUpTo (wsV RX9 39 RX9 yX9_refused wsX9_refused) := goodIn_app (goodIn_of _ (by decide +kernel)) ggX9_completeUpTo_X9_refused
set_option maxRecDepth 20000 in
theorem ggX9_completeUpTo_X9_complete : GoodIn wsX9_completeUpTo wsX9_complete := goodIn_r _ [16, 17, 18, 19, 20, 3, 21, 22, 23, 24, 25, 26, 27, 28, 29, 30, 31, 32, 33, 34, 35, 36, 37, 38, 39, 40, 41, 42, 43, 44] (by decide +kernel) (by decide +kernel)
set_option maxRecDepth 20000 in
theorem gX9_completeUpTo_X9_complete : GoodIn wsX9_completeUpTo (wsV RX9 92 RX9 yX9_complete wsX9_complete) := goodIn_app (goodIn_of _ (by decide +kernel)) ggX9_completeUpTo_X9_complete
theorem dX9_completeUpTo_0 : decode cX9_completeUpTo 0 = .ok (.aload_n 0, 1) := by decide +kernel
theorem dX9_completeUpTo_1 : decode cX9_completeUpTo 1 = .ok (.iload_n 1, 1) := by decide +kernel
theorem dX9_completeUpTo_2 : decode cX9_completeUpTo 2 = .ok (.invokestatic 61, 3) := by decide +kernel
theorem dX9_completeUpTo_5 : decode cX9_completeUpTo 5 = .ok (.ifCond .eq 7, 3) := by decide +kernel
theorem dX9_completeUpTo_8 : decode cX9_completeUpTo 8 = .ok (.iconst 0, 1) := by decide +kernel
theorem dX9_completeUpTo_9 : decode cX9_completeUpTo 9 = .ok (.goto 4, 3) := by decide +kernel
theorem dX9_completeUpTo_12 : decode cX9_completeUpTo 12 = .ok (.iconst 1, 1) := by decide +kernel
theorem dX9_completeUpTo_13 : decode cX9_completeUpTo 13 = .ok (.invokevirtual 39, 3) := by decide +kernel
theorem dX9_completeUpTo_16 : decode cX9_completeUpTo 16 = .ok (.ifCond .eq 7, 3) := by decide +kernel
theorem dX9_completeUpTo_19 : decode cX9_completeUpTo 19 = .ok (.iconst 0, 1) := by decide +kernel
theorem dX9_completeUpTo_20 : decode cX9_completeUpTo 20 = .ok (.goto 8, 3) := by decide +kernel
theorem dX9_completeUpTo_23 : decode cX9_completeUpTo 23 = .ok (.aload_n 0, 1) := by decide +kernel
theorem dX9_completeUpTo_24 : decode cX9_completeUpTo 24 = .ok (.iload_n 1, 1) := by decide +kernel
theorem dX9_completeUpTo_25 : decode cX9_completeUpTo 25 = .ok (.invokevirtual 92, 3) := by decide +kernel
theorem dX9_completeUpTo_28 : decode cX9_completeUpTo 28 = .ok (.ireturn, 1) := by decide +kernel
set_option maxRecDepth 20000 in
theorem ggX9_unlike_X9_laysOften : GoodIn wsX9_unlike wsX9_laysOften := goodIn_r _ [6, 1, 7, 8, 9, 5, 10, 11, 12, 13, 14, 15, 16, 17, 18, 19, 20, 21, 22, 23, 24, 25, 26, 27, 28, 29] (by decide +kernel) (by decide +kernel)
set_option maxRecDepth 20000 in
theorem gX9_unlike_X9_laysOften : GoodIn wsX9_unlike (wsV RX9 86 RX9 yX9_laysOften wsX9_laysOften) := goodIn_app (goodIn_of _ (by decide +kernel)) ggX9_unlike_X9_laysOften
theorem dX9_unlike_0 : decode cX9_unlike 0 = .ok (.aload_n 0, 1) := by decide +kernel
theorem dX9_unlike_1 : decode cX9_unlike 1 = .ok (.iconst 1, 1) := by decide +kernel
theorem dX9_unlike_2 : decode cX9_unlike 2 = .ok (.iload_n 1, 1) := by decide +kernel
theorem dX9_unlike_3 : decode cX9_unlike 3 = .ok (.ishl, 1) := by decide +kernel
theorem dX9_unlike_4 : decode cX9_unlike 4 = .ok (.invokevirtual 86, 3) := by decide +kernel
theorem dX9_unlike_7 : decode cX9_unlike 7 = .ok (.iconst 0, 1) := by decide +kernel
theorem dX9_unlike_8 : decode cX9_unlike 8 = .ok (.istore_n 2, 1) := by decide +kernel
theorem dX9_unlike_9 : decode cX9_unlike 9 = .ok (.iconst 1, 1) := by decide +kernel
theorem dX9_unlike_10 : decode cX9_unlike 10 = .ok (.istore_n 3, 1) := by decide +kernel
theorem dX9_unlike_11 : decode cX9_unlike 11 = .ok (.iload_n 3, 1) := by decide +kernel
theorem dX9_unlike_12 : decode cX9_unlike 12 = .ok (.sipush 2000, 3) := by decide +kernel
theorem dX9_unlike_15 : decode cX9_unlike 15 = .ok (.if_icmp .gt 26, 3) := by decide +kernel
theorem dX9_unlike_18 : decode cX9_unlike 18 = .ok (.iload_n 2, 1) := by decide +kernel
theorem dX9_unlike_19 : decode cX9_unlike 19 = .ok (.aload_n 0, 1) := by decide +kernel
theorem dX9_unlike_20 : decode cX9_unlike 20 = .ok (.getfield 19, 3) := by decide +kernel
theorem dX9_unlike_23 : decode cX9_unlike 23 = .ok (.iload_n 3, 1) := by decide +kernel
theorem dX9_unlike_24 : decode cX9_unlike 24 = .ok (.iaload, 1) := by decide +kernel
theorem dX9_unlike_25 : decode cX9_unlike 25 = .ok (.ifCond .le 7, 3) := by decide +kernel
theorem dX9_unlike_28 : decode cX9_unlike 28 = .ok (.iconst 1, 1) := by decide +kernel
theorem dX9_unlike_29 : decode cX9_unlike 29 = .ok (.goto 4, 3) := by decide +kernel
theorem dX9_unlike_32 : decode cX9_unlike 32 = .ok (.iconst 0, 1) := by decide +kernel
theorem dX9_unlike_33 : decode cX9_unlike 33 = .ok (.iadd, 1) := by decide +kernel
theorem dX9_unlike_34 : decode cX9_unlike 34 = .ok (.istore_n 2, 1) := by decide +kernel
theorem dX9_unlike_35 : decode cX9_unlike 35 = .ok (.iinc 3 1, 3) := by decide +kernel
theorem dX9_unlike_38 : decode cX9_unlike 38 = .ok (.goto (-27), 3) := by decide +kernel
theorem dX9_unlike_41 : decode cX9_unlike 41 = .ok (.iload_n 2, 1) := by decide +kernel
theorem dX9_unlike_42 : decode cX9_unlike 42 = .ok (.ireturn, 1) := by decide +kernel
set_option maxRecDepth 20000 in
theorem ggX9_differences_X9_isSet : GoodIn wsX9_differences wsX9_isSet := goodIn_r _ [4, 5, 6, 3, 7] (by decide +kernel) (by decide +kernel)
set_option maxRecDepth 20000 in
theorem gX9_differences_X9_isSet : GoodIn wsX9_differences (va_wsS RX9 61 yX9_isSet wsX9_isSet) := goodIn_app (goodIn_of _ (by decide +kernel)) ggX9_differences_X9_isSet
set_option maxRecDepth 20000 in
theorem ggX9_differences_X9_refused : GoodIn wsX9_differences wsX9_refused := goodIn_r _ [11, 12, 35, 36, 37, 38, 39, 40, 41, 42, 43, 44] (by decide +kernel) (by decide +kernel)
set_option maxRecDepth 20000 in
theorem gX9_differences_X9_refused : GoodIn wsX9_differences (wsV RX9 39 RX9 yX9_refused wsX9_refused) := goodIn_app (goodIn_of _ (by decide +kernel)) ggX9_differences_X9_refused
set_option maxRecDepth 20000 in
theorem ggX9_differences_X9_unlike : GoodIn wsX9_differences wsX9_unlike := goodIn_r _ [16, 17, 18, 19, 20, 3, 21, 22, 23, 24, 25, 26, 27, 28, 29, 30, 31, 32, 33, 34, 35, 36, 37, 38, 39, 40, 41, 42, 43, 44] (by decide +kernel) (by decide +kernel)
set_option maxRecDepth 20000 in
theorem gX9_differences_X9_unlike : GoodIn wsX9_differences (wsV RX9 95 RX9 yX9_unlike wsX9_unlike) := goodIn_app (goodIn_of _ (by decide +kernel)) ggX9_differences_X9_unlike
theorem dX9_differences_0 : decode cX9_differences 0 = .ok (.aload_n 0, 1) := by decide +kernel
theorem dX9_differences_1 : decode cX9_differences 1 = .ok (.iload_n 1, 1) := by decide +kernel
theorem dX9_differences_2 : decode cX9_differences 2 = .ok (.invokestatic 61, 3) := by decide +kernel
theorem dX9_differences_5 : decode cX9_differences 5 = .ok (.ifCond .eq 7, 3) := by decide +kernel
theorem dX9_differences_8 : decode cX9_differences 8 = .ok (.iconst 0, 1) := by decide +kernel
theorem dX9_differences_9 : decode cX9_differences 9 = .ok (.goto 4, 3) := by decide +kernel
theorem dX9_differences_12 : decode cX9_differences 12 = .ok (.iconst 1, 1) := by decide +kernel
theorem dX9_differences_13 : decode cX9_differences 13 = .ok (.invokevirtual 39, 3) := by decide +kernel
theorem dX9_differences_16 : decode cX9_differences 16 = .ok (.ifCond .eq 7, 3) := by decide +kernel
theorem dX9_differences_19 : decode cX9_differences 19 = .ok (.iconst 0, 1) := by decide +kernel
theorem dX9_differences_20 : decode cX9_differences 20 = .ok (.goto 8, 3) := by decide +kernel
theorem dX9_differences_23 : decode cX9_differences 23 = .ok (.aload_n 0, 1) := by decide +kernel
theorem dX9_differences_24 : decode cX9_differences 24 = .ok (.iload_n 1, 1) := by decide +kernel
theorem dX9_differences_25 : decode cX9_differences 25 = .ok (.invokevirtual 95, 3) := by decide +kernel
theorem dX9_differences_28 : decode cX9_differences 28 = .ok (.ireturn, 1) := by decide +kernel
set_option maxRecDepth 20000 in
theorem ggX9_isFamily_X9_within : GoodIn wsX9_isFamily wsX9_within := goodIn_r _ [4] (by decide +kernel) (by decide +kernel)
set_option maxRecDepth 20000 in
theorem gX9_isFamily_X9_within : GoodIn wsX9_isFamily (va_wsS RX9 32 yX9_within wsX9_within) := goodIn_app (goodIn_of _ (by decide +kernel)) ggX9_isFamily_X9_within
set_option maxRecDepth 20000 in
theorem ggX9_isFamily_X9_refused : GoodIn wsX9_isFamily wsX9_refused := goodIn_r _ [8, 9, 32, 33, 34, 35, 36, 37, 38, 39, 40, 41] (by decide +kernel) (by decide +kernel)
set_option maxRecDepth 20000 in
theorem gX9_isFamily_X9_refused : GoodIn wsX9_isFamily (wsV RX9 39 RX9 yX9_refused wsX9_refused) := goodIn_app (goodIn_of _ (by decide +kernel)) ggX9_isFamily_X9_refused
set_option maxRecDepth 20000 in
theorem ggX9_isFamily_X9_areOnce : GoodIn wsX9_isFamily wsX9_areOnce := goodIn_r _ [13, 14, 15, 16, 17, 3, 18, 19, 20, 21, 22, 23, 24, 25, 26, 27, 28, 29, 30, 31, 32, 33, 34, 35, 36, 37, 38, 39, 40, 41] (by decide +kernel) (by decide +kernel)
set_option maxRecDepth 20000 in
theorem gX9_isFamily_X9_areOnce : GoodIn wsX9_isFamily (wsV RX9 89 RX9 yX9_areOnce wsX9_areOnce) := goodIn_app (goodIn_of _ (by decide +kernel)) ggX9_isFamily_X9_areOnce
theorem dX9_isFamily_0 : decode cX9_isFamily 0 = .ok (.aload_n 0, 1) := by decide +kernel
theorem dX9_isFamily_1 : decode cX9_isFamily 1 = .ok (.iload_n 1, 1) := by decide +kernel
theorem dX9_isFamily_2 : decode cX9_isFamily 2 = .ok (.iconst 0, 1) := by decide +kernel
theorem dX9_isFamily_3 : decode cX9_isFamily 3 = .ok (.bipush 15, 2) := by decide +kernel
theorem dX9_isFamily_5 : decode cX9_isFamily 5 = .ok (.invokestatic 32, 3) := by decide +kernel
theorem dX9_isFamily_8 : decode cX9_isFamily 8 = .ok (.ifCond .eq 7, 3) := by decide +kernel
theorem dX9_isFamily_11 : decode cX9_isFamily 11 = .ok (.iconst 0, 1) := by decide +kernel
theorem dX9_isFamily_12 : decode cX9_isFamily 12 = .ok (.goto 4, 3) := by decide +kernel
theorem dX9_isFamily_15 : decode cX9_isFamily 15 = .ok (.iconst 1, 1) := by decide +kernel
theorem dX9_isFamily_16 : decode cX9_isFamily 16 = .ok (.invokevirtual 39, 3) := by decide +kernel
theorem dX9_isFamily_19 : decode cX9_isFamily 19 = .ok (.ifCond .ne 15, 3) := by decide +kernel
theorem dX9_isFamily_22 : decode cX9_isFamily 22 = .ok (.aload_n 0, 1) := by decide +kernel
theorem dX9_isFamily_23 : decode cX9_isFamily 23 = .ok (.iload_n 1, 1) := by decide +kernel
theorem dX9_isFamily_24 : decode cX9_isFamily 24 = .ok (.invokevirtual 89, 3) := by decide +kernel
theorem dX9_isFamily_27 : decode cX9_isFamily 27 = .ok (.ifCond .eq 7, 3) := by decide +kernel
theorem dX9_isFamily_30 : decode cX9_isFamily 30 = .ok (.iconst 1, 1) := by decide +kernel
theorem dX9_isFamily_31 : decode cX9_isFamily 31 = .ok (.goto 4, 3) := by decide +kernel
theorem dX9_isFamily_34 : decode cX9_isFamily 34 = .ok (.iconst 0, 1) := by decide +kernel
theorem dX9_isFamily_35 : decode cX9_isFamily 35 = .ok (.ireturn, 1) := by decide +kernel
set_option maxRecDepth 20000 in
theorem ggX9_setModulus_X9_within : GoodIn wsX9_setModulus wsX9_within := goodIn_r _ [5] (by decide +kernel) (by decide +kernel)
set_option maxRecDepth 20000 in
theorem gX9_setModulus_X9_within : GoodIn wsX9_setModulus (va_wsS RX9 32 yX9_within wsX9_within) := goodIn_app (goodIn_of _ (by decide +kernel)) ggX9_setModulus_X9_within
set_option maxRecDepth 20000 in
theorem ggX9_setModulus_X9_refused : GoodIn wsX9_setModulus wsX9_refused := goodIn_r _ [9, 10, 21, 22, 23, 24, 25, 26, 27, 28, 29, 30] (by decide +kernel) (by decide +kernel)
set_option maxRecDepth 20000 in
theorem gX9_setModulus_X9_refused : GoodIn wsX9_setModulus (wsV RX9 39 RX9 yX9_refused wsX9_refused) := goodIn_app (goodIn_of _ (by decide +kernel)) ggX9_setModulus_X9_refused
set_option maxRecDepth 20000 in
theorem ggX9_setModulus_X9_saves : GoodIn wsX9_setModulus wsX9_saves := goodIn_r _ [14, 15, 16, 1, 21, 22, 23, 24, 25, 26, 27, 28, 29, 30] (by decide +kernel) (by decide +kernel)
set_option maxRecDepth 20000 in
theorem gX9_setModulus_X9_saves : GoodIn wsX9_setModulus (wsV RX9 67 RX9 yX9_saves wsX9_saves) := goodIn_app (goodIn_of _ (by decide +kernel)) ggX9_setModulus_X9_saves
set_option maxRecDepth 20000 in
theorem ggX9_setModulus_X9_modulus : GoodIn wsX9_setModulus wsX9_modulus := goodIn_r _ [20, 1, 21, 22, 23, 24, 25, 26, 27, 28, 29, 30] (by decide +kernel) (by decide +kernel)
set_option maxRecDepth 20000 in
theorem gX9_setModulus_X9_modulus : GoodIn wsX9_setModulus (wsV RX9 98 RX9 yX9_modulus wsX9_modulus) := goodIn_app (goodIn_of _ (by decide +kernel)) ggX9_setModulus_X9_modulus
theorem dX9_setModulus_0 : decode cX9_setModulus 0 = .ok (.aload_n 0, 1) := by decide +kernel
theorem dX9_setModulus_1 : decode cX9_setModulus 1 = .ok (.iload_n 1, 1) := by decide +kernel
theorem dX9_setModulus_2 : decode cX9_setModulus 2 = .ok (.iconst 2, 1) := by decide +kernel
theorem dX9_setModulus_3 : decode cX9_setModulus 3 = .ok (.sipush 1000, 3) := by decide +kernel
theorem dX9_setModulus_6 : decode cX9_setModulus 6 = .ok (.invokestatic 32, 3) := by decide +kernel
theorem dX9_setModulus_9 : decode cX9_setModulus 9 = .ok (.ifCond .eq 7, 3) := by decide +kernel
theorem dX9_setModulus_12 : decode cX9_setModulus 12 = .ok (.iconst 0, 1) := by decide +kernel
theorem dX9_setModulus_13 : decode cX9_setModulus 13 = .ok (.goto 4, 3) := by decide +kernel
theorem dX9_setModulus_16 : decode cX9_setModulus 16 = .ok (.iconst 1, 1) := by decide +kernel
theorem dX9_setModulus_17 : decode cX9_setModulus 17 = .ok (.invokevirtual 39, 3) := by decide +kernel
theorem dX9_setModulus_20 : decode cX9_setModulus 20 = .ok (.ifCond .eq 5, 3) := by decide +kernel
theorem dX9_setModulus_23 : decode cX9_setModulus 23 = .ok (.iconst 0, 1) := by decide +kernel
theorem dX9_setModulus_24 : decode cX9_setModulus 24 = .ok (.ireturn, 1) := by decide +kernel
theorem dX9_setModulus_25 : decode cX9_setModulus 25 = .ok (.aload_n 0, 1) := by decide +kernel
theorem dX9_setModulus_26 : decode cX9_setModulus 26 = .ok (.invokevirtual 67, 3) := by decide +kernel
theorem dX9_setModulus_29 : decode cX9_setModulus 29 = .ok (.aload_n 0, 1) := by decide +kernel
theorem dX9_setModulus_30 : decode cX9_setModulus 30 = .ok (.invokevirtual 98, 3) := by decide +kernel
theorem dX9_setModulus_33 : decode cX9_setModulus 33 = .ok (.istore_n 2, 1) := by decide +kernel
theorem dX9_setModulus_34 : decode cX9_setModulus 34 = .ok (.aload_n 0, 1) := by decide +kernel
theorem dX9_setModulus_35 : decode cX9_setModulus 35 = .ok (.getfield 7, 3) := by decide +kernel
theorem dX9_setModulus_38 : decode cX9_setModulus 38 = .ok (.iconst 0, 1) := by decide +kernel
theorem dX9_setModulus_39 : decode cX9_setModulus 39 = .ok (.iload_n 1, 1) := by decide +kernel
theorem dX9_setModulus_40 : decode cX9_setModulus 40 = .ok (.iastore, 1) := by decide +kernel
theorem dX9_setModulus_41 : decode cX9_setModulus 41 = .ok (.iload_n 2, 1) := by decide +kernel
theorem dX9_setModulus_42 : decode cX9_setModulus 42 = .ok (.ireturn, 1) := by decide +kernel
set_option maxRecDepth 20000 in
theorem ggX9_isLow_X9_many : GoodIn wsX9_isLow wsX9_many := goodIn_r _ [5, 6, 15, 16, 17, 18, 19, 20, 21, 22, 23, 24] (by decide +kernel) (by decide +kernel)
set_option maxRecDepth 20000 in
theorem gX9_isLow_X9_many : GoodIn wsX9_isLow (wsV RX9 46 RX9 yX9_many wsX9_many) := goodIn_app (goodIn_of _ (by decide +kernel)) ggX9_isLow_X9_many
set_option maxRecDepth 20000 in
theorem ggX9_isLow_X9_markAt : GoodIn wsX9_isLow wsX9_markAt := goodIn_r _ [10, 6, 15, 16, 17, 18, 19, 20, 21, 22, 23, 24] (by decide +kernel) (by decide +kernel)
set_option maxRecDepth 20000 in
theorem gX9_isLow_X9_markAt : GoodIn wsX9_isLow (wsV RX9 50 RX9 yX9_markAt wsX9_markAt) := goodIn_app (goodIn_of _ (by decide +kernel)) ggX9_isLow_X9_markAt
set_option maxRecDepth 20000 in
theorem ggX9_isLow_X9_modulus : GoodIn wsX9_isLow wsX9_modulus := goodIn_r _ [14, 6, 15, 16, 17, 18, 19, 20, 21, 22, 23, 24] (by decide +kernel) (by decide +kernel)
set_option maxRecDepth 20000 in
theorem gX9_isLow_X9_modulus : GoodIn wsX9_isLow (wsV RX9 98 RX9 yX9_modulus wsX9_modulus) := goodIn_app (goodIn_of _ (by decide +kernel)) ggX9_isLow_X9_modulus
theorem dX9_isLow_0 : decode cX9_isLow 0 = .ok (.aload_n 0, 1) := by decide +kernel
theorem dX9_isLow_1 : decode cX9_isLow 1 = .ok (.iload_n 1, 1) := by decide +kernel
theorem dX9_isLow_2 : decode cX9_isLow 2 = .ok (.invokevirtual 46, 3) := by decide +kernel
theorem dX9_isLow_5 : decode cX9_isLow 5 = .ok (.ifCond .eq 22, 3) := by decide +kernel
theorem dX9_isLow_8 : decode cX9_isLow 8 = .ok (.aload_n 0, 1) := by decide +kernel
theorem dX9_isLow_9 : decode cX9_isLow 9 = .ok (.iload_n 1, 1) := by decide +kernel
theorem dX9_isLow_10 : decode cX9_isLow 10 = .ok (.aload_n 0, 1) := by decide +kernel
theorem dX9_isLow_11 : decode cX9_isLow 11 = .ok (.iload_n 1, 1) := by decide +kernel
theorem dX9_isLow_12 : decode cX9_isLow 12 = .ok (.invokevirtual 46, 3) := by decide +kernel
theorem dX9_isLow_15 : decode cX9_isLow 15 = .ok (.iconst 1, 1) := by decide +kernel
theorem dX9_isLow_16 : decode cX9_isLow 16 = .ok (.isub, 1) := by decide +kernel
theorem dX9_isLow_17 : decode cX9_isLow 17 = .ok (.invokevirtual 50, 3) := by decide +kernel
theorem dX9_isLow_20 : decode cX9_isLow 20 = .ok (.aload_n 0, 1) := by decide +kernel
theorem dX9_isLow_21 : decode cX9_isLow 21 = .ok (.invokevirtual 98, 3) := by decide +kernel
theorem dX9_isLow_24 : decode cX9_isLow 24 = .ok (.if_icmp .ge 7, 3) := by decide +kernel
theorem dX9_isLow_27 : decode cX9_isLow 27 = .ok (.iconst 1, 1) := by decide +kernel
theorem dX9_isLow_28 : decode cX9_isLow 28 = .ok (.goto 4, 3) := by decide +kernel
theorem dX9_isLow_31 : decode cX9_isLow 31 = .ok (.iconst 0, 1) := by decide +kernel
theorem dX9_isLow_32 : decode cX9_isLow 32 = .ok (.ireturn, 1) := by decide +kernel
set_option maxRecDepth 20000 in
theorem ggX9_around_X9_modulus : GoodIn wsX9_around wsX9_modulus := goodIn_r _ [5, 6, 7, 8, 9, 10, 11, 12, 13, 14, 15, 16] (by decide +kernel) (by decide +kernel)
set_option maxRecDepth 20000 in
theorem gX9_around_X9_modulus : GoodIn wsX9_around (wsV RX9 98 RX9 yX9_modulus wsX9_modulus) := goodIn_app (goodIn_of _ (by decide +kernel)) ggX9_around_X9_modulus
theorem dX9_around_0 : decode cX9_around 0 = .ok (.iload_n 1, 1) := by decide +kernel
theorem dX9_around_1 : decode cX9_around 1 = .ok (.aload_n 0, 1) := by decide +kernel
theorem dX9_around_2 : decode cX9_around 2 = .ok (.invokevirtual 98, 3) := by decide +kernel
theorem dX9_around_5 : decode cX9_around 5 = .ok (.irem, 1) := by decide +kernel
theorem dX9_around_6 : decode cX9_around 6 = .ok (.istore_n 2, 1) := by decide +kernel
theorem dX9_around_7 : decode cX9_around 7 = .ok (.iload_n 2, 1) := by decide +kernel
theorem dX9_around_8 : decode cX9_around 8 = .ok (.ifCond .ge 12, 3) := by decide +kernel
theorem dX9_around_11 : decode cX9_around 11 = .ok (.iload_n 2, 1) := by decide +kernel
theorem dX9_around_12 : decode cX9_around 12 = .ok (.aload_n 0, 1) := by decide +kernel
theorem dX9_around_13 : decode cX9_around 13 = .ok (.invokevirtual 98, 3) := by decide +kernel
theorem dX9_around_16 : decode cX9_around 16 = .ok (.iadd, 1) := by decide +kernel
theorem dX9_around_17 : decode cX9_around 17 = .ok (.goto 4, 3) := by decide +kernel
theorem dX9_around_20 : decode cX9_around 20 = .ok (.iload_n 2, 1) := by decide +kernel
theorem dX9_around_21 : decode cX9_around 21 = .ok (.ireturn, 1) := by decide +kernel
set_option maxRecDepth 20000 in
theorem ggX9_cyclicPairs_X9_many : GoodIn wsX9_cyclicPairs wsX9_many := goodIn_r _ [5, 6, 23, 24, 25, 26, 27, 28, 29, 30, 31, 32] (by decide +kernel) (by decide +kernel)
set_option maxRecDepth 20000 in
theorem gX9_cyclicPairs_X9_many : GoodIn wsX9_cyclicPairs (wsV RX9 46 RX9 yX9_many wsX9_many) := goodIn_app (goodIn_of _ (by decide +kernel)) ggX9_cyclicPairs_X9_many
set_option maxRecDepth 20000 in
theorem ggX9_cyclicPairs_X9_markAt : GoodIn wsX9_cyclicPairs wsX9_markAt := goodIn_r _ [10, 6, 23, 24, 25, 26, 27, 28, 29, 30, 31, 32] (by decide +kernel) (by decide +kernel)
set_option maxRecDepth 20000 in
theorem gX9_cyclicPairs_X9_markAt : GoodIn wsX9_cyclicPairs (wsV RX9 50 RX9 yX9_markAt wsX9_markAt) := goodIn_app (goodIn_of _ (by decide +kernel)) ggX9_cyclicPairs_X9_markAt
set_option maxRecDepth 20000 in
theorem ggX9_cyclicPairs_X9_around : GoodIn wsX9_cyclicPairs wsX9_around := goodIn_r _ [14, 15, 16, 17, 4, 18, 6, 23, 24, 25, 26, 27, 28, 29, 30, 31, 32] (by decide +kernel) (by decide +kernel)
set_option maxRecDepth 20000 in
theorem gX9_cyclicPairs_X9_around : GoodIn wsX9_cyclicPairs (wsV RX9 102 RX9 yX9_around wsX9_around) := goodIn_app (goodIn_of _ (by decide +kernel)) ggX9_cyclicPairs_X9_around
set_option maxRecDepth 20000 in
theorem ggX9_cyclicPairs_X9_numberOf : GoodIn wsX9_cyclicPairs wsX9_numberOf := goodIn_r _ [22, 1, 2, 3, 4, 5, 6, 7, 8, 9, 10, 23, 24, 25, 26, 27, 28, 29, 30, 31, 32] (by decide +kernel) (by decide +kernel)
set_option maxRecDepth 20000 in
theorem gX9_cyclicPairs_X9_numberOf : GoodIn wsX9_cyclicPairs (wsV RX9 64 RX9 yX9_numberOf wsX9_numberOf) := goodIn_app (goodIn_of _ (by decide +kernel)) ggX9_cyclicPairs_X9_numberOf
theorem dX9_cyclicPairs_0 : decode cX9_cyclicPairs 0 = .ok (.iconst 0, 1) := by decide +kernel
theorem dX9_cyclicPairs_1 : decode cX9_cyclicPairs 1 = .ok (.istore_n 3, 1) := by decide +kernel
theorem dX9_cyclicPairs_2 : decode cX9_cyclicPairs 2 = .ok (.iconst 0, 1) := by decide +kernel
theorem dX9_cyclicPairs_3 : decode cX9_cyclicPairs 3 = .ok (.istore 4, 2) := by decide +kernel
theorem dX9_cyclicPairs_5 : decode cX9_cyclicPairs 5 = .ok (.iload 4, 2) := by decide +kernel
theorem dX9_cyclicPairs_7 : decode cX9_cyclicPairs 7 = .ok (.aload_n 0, 1) := by decide +kernel
theorem dX9_cyclicPairs_8 : decode cX9_cyclicPairs 8 = .ok (.iload_n 1, 1) := by decide +kernel
theorem dX9_cyclicPairs_9 : decode cX9_cyclicPairs 9 = .ok (.invokevirtual 46, 3) := by decide +kernel
theorem dX9_cyclicPairs_12 : decode cX9_cyclicPairs 12 = .ok (.if_icmp .ge 39, 3) := by decide +kernel
theorem dX9_cyclicPairs_15 : decode cX9_cyclicPairs 15 = .ok (.iload_n 3, 1) := by decide +kernel
theorem dX9_cyclicPairs_16 : decode cX9_cyclicPairs 16 = .ok (.aload_n 0, 1) := by decide +kernel
theorem dX9_cyclicPairs_17 : decode cX9_cyclicPairs 17 = .ok (.iload_n 1, 1) := by decide +kernel
theorem dX9_cyclicPairs_18 : decode cX9_cyclicPairs 18 = .ok (.aload_n 0, 1) := by decide +kernel
theorem dX9_cyclicPairs_19 : decode cX9_cyclicPairs 19 = .ok (.aload_n 0, 1) := by decide +kernel
theorem dX9_cyclicPairs_20 : decode cX9_cyclicPairs 20 = .ok (.iload_n 1, 1) := by decide +kernel
theorem dX9_cyclicPairs_21 : decode cX9_cyclicPairs 21 = .ok (.iload 4, 2) := by decide +kernel
theorem dX9_cyclicPairs_23 : decode cX9_cyclicPairs 23 = .ok (.invokevirtual 50, 3) := by decide +kernel
theorem dX9_cyclicPairs_26 : decode cX9_cyclicPairs 26 = .ok (.iload_n 2, 1) := by decide +kernel
theorem dX9_cyclicPairs_27 : decode cX9_cyclicPairs 27 = .ok (.isub, 1) := by decide +kernel
theorem dX9_cyclicPairs_28 : decode cX9_cyclicPairs 28 = .ok (.invokevirtual 102, 3) := by decide +kernel
theorem dX9_cyclicPairs_31 : decode cX9_cyclicPairs 31 = .ok (.invokevirtual 64, 3) := by decide +kernel
theorem dX9_cyclicPairs_34 : decode cX9_cyclicPairs 34 = .ok (.iconst (-1), 1) := by decide +kernel
theorem dX9_cyclicPairs_35 : decode cX9_cyclicPairs 35 = .ok (.if_icmp .ne 7, 3) := by decide +kernel
theorem dX9_cyclicPairs_38 : decode cX9_cyclicPairs 38 = .ok (.iconst 0, 1) := by decide +kernel
theorem dX9_cyclicPairs_39 : decode cX9_cyclicPairs 39 = .ok (.goto 4, 3) := by decide +kernel
theorem dX9_cyclicPairs_42 : decode cX9_cyclicPairs 42 = .ok (.iconst 1, 1) := by decide +kernel
theorem dX9_cyclicPairs_43 : decode cX9_cyclicPairs 43 = .ok (.iadd, 1) := by decide +kernel
theorem dX9_cyclicPairs_44 : decode cX9_cyclicPairs 44 = .ok (.istore_n 3, 1) := by decide +kernel
theorem dX9_cyclicPairs_45 : decode cX9_cyclicPairs 45 = .ok (.iinc 4 1, 3) := by decide +kernel
theorem dX9_cyclicPairs_48 : decode cX9_cyclicPairs 48 = .ok (.goto (-43), 3) := by decide +kernel
theorem dX9_cyclicPairs_51 : decode cX9_cyclicPairs 51 = .ok (.iload_n 3, 1) := by decide +kernel
theorem dX9_cyclicPairs_52 : decode cX9_cyclicPairs 52 = .ok (.ireturn, 1) := by decide +kernel
set_option maxRecDepth 20000 in
theorem ggX9_bar_X9_isSet : GoodIn wsX9_bar wsX9_isSet := goodIn_r _ [4, 5, 6, 3, 7] (by decide +kernel) (by decide +kernel)
set_option maxRecDepth 20000 in
theorem gX9_bar_X9_isSet : GoodIn wsX9_bar (va_wsS RX9 61 yX9_isSet wsX9_isSet) := goodIn_app (goodIn_of _ (by decide +kernel)) ggX9_bar_X9_isSet
set_option maxRecDepth 20000 in
theorem ggX9_bar_X9_isLow : GoodIn wsX9_bar wsX9_isLow := goodIn_r _ [11, 12, 13, 14, 3, 15, 16, 17, 18, 19, 20, 21, 22, 23, 24, 25, 26, 27, 28, 29, 30, 31, 32, 33, 34] (by decide +kernel) (by decide +kernel)
set_option maxRecDepth 20000 in
theorem gX9_bar_X9_isLow : GoodIn wsX9_bar (wsV RX9 105 RX9 yX9_isLow wsX9_isLow) := goodIn_app (goodIn_of _ (by decide +kernel)) ggX9_bar_X9_isLow
theorem dX9_bar_0 : decode cX9_bar 0 = .ok (.iload_n 1, 1) := by decide +kernel
theorem dX9_bar_1 : decode cX9_bar 1 = .ok (.invokestatic 61, 3) := by decide +kernel
theorem dX9_bar_4 : decode cX9_bar 4 = .ok (.ifCond .ne 7, 3) := by decide +kernel
theorem dX9_bar_7 : decode cX9_bar 7 = .ok (.iconst 1, 1) := by decide +kernel
theorem dX9_bar_8 : decode cX9_bar 8 = .ok (.goto 16, 3) := by decide +kernel
theorem dX9_bar_11 : decode cX9_bar 11 = .ok (.aload_n 0, 1) := by decide +kernel
theorem dX9_bar_12 : decode cX9_bar 12 = .ok (.iload_n 1, 1) := by decide +kernel
theorem dX9_bar_13 : decode cX9_bar 13 = .ok (.invokevirtual 105, 3) := by decide +kernel
theorem dX9_bar_16 : decode cX9_bar 16 = .ok (.ifCond .eq 7, 3) := by decide +kernel
theorem dX9_bar_19 : decode cX9_bar 19 = .ok (.iconst 0, 1) := by decide +kernel
theorem dX9_bar_20 : decode cX9_bar 20 = .ok (.goto 4, 3) := by decide +kernel
theorem dX9_bar_23 : decode cX9_bar 23 = .ok (.iconst 2, 1) := by decide +kernel
theorem dX9_bar_24 : decode cX9_bar 24 = .ok (.ireturn, 1) := by decide +kernel
set_option maxRecDepth 20000 in
theorem ggX9_cyclicMultiplicity_X9_isSet : GoodIn wsX9_cyclicMultiplicity wsX9_isSet := goodIn_r _ [4, 5, 6, 3, 7] (by decide +kernel) (by decide +kernel)
set_option maxRecDepth 20000 in
theorem gX9_cyclicMultiplicity_X9_isSet : GoodIn wsX9_cyclicMultiplicity (va_wsS RX9 61 yX9_isSet wsX9_isSet) := goodIn_app (goodIn_of _ (by decide +kernel)) ggX9_cyclicMultiplicity_X9_isSet
set_option maxRecDepth 20000 in
theorem ggX9_cyclicMultiplicity_X9_modulus : GoodIn wsX9_cyclicMultiplicity wsX9_modulus := goodIn_r _ [11, 12, 42, 43, 44, 45, 46, 47, 48, 49, 50, 51] (by decide +kernel) (by decide +kernel)
set_option maxRecDepth 20000 in
theorem gX9_cyclicMultiplicity_X9_modulus : GoodIn wsX9_cyclicMultiplicity (wsV RX9 98 RX9 yX9_modulus wsX9_modulus) := goodIn_app (goodIn_of _ (by decide +kernel)) ggX9_cyclicMultiplicity_X9_modulus
set_option maxRecDepth 20000 in
theorem ggX9_cyclicMultiplicity_X9_within : GoodIn wsX9_cyclicMultiplicity wsX9_within := goodIn_r _ [7] (by decide +kernel) (by decide +kernel)
set_option maxRecDepth 20000 in
theorem gX9_cyclicMultiplicity_X9_within : GoodIn wsX9_cyclicMultiplicity (va_wsS RX9 32 yX9_within wsX9_within) := goodIn_app (goodIn_of _ (by decide +kernel)) ggX9_cyclicMultiplicity_X9_within
set_option maxRecDepth 20000 in
theorem ggX9_cyclicMultiplicity_X9_isLow : GoodIn wsX9_cyclicMultiplicity wsX9_isLow := goodIn_r _ [16, 17, 18, 19, 3, 20, 12, 21, 22, 23, 24, 8, 9, 10, 11, 42, 43, 44, 45, 46, 47, 48, 49, 50, 51] (by decide +kernel) (by decide +kernel)
set_option maxRecDepth 20000 in
theorem gX9_cyclicMultiplicity_X9_isLow : GoodIn wsX9_cyclicMultiplicity (wsV RX9 105 RX9 yX9_isLow wsX9_isLow) := goodIn_app (goodIn_of _ (by decide +kernel)) ggX9_cyclicMultiplicity_X9_isLow
set_option maxRecDepth 20000 in
theorem ggX9_cyclicMultiplicity_X9_refused : GoodIn wsX9_cyclicMultiplicity wsX9_refused := goodIn_r _ [28, 29, 42, 43, 44, 45, 46, 47, 48, 49, 50, 51] (by decide +kernel) (by decide +kernel)
set_option maxRecDepth 20000 in
theorem gX9_cyclicMultiplicity_X9_refused : GoodIn wsX9_cyclicMultiplicity (wsV RX9 39 RX9 yX9_refused wsX9_refused) := goodIn_app (goodIn_of _ (by decide +kernel)) ggX9_cyclicMultiplicity_X9_refused
set_option maxRecDepth 20000 in
theorem ggX9_cyclicMultiplicity_X9_cyclicPairs : GoodIn wsX9_cyclicMultiplicity wsX9_cyclicPairs := goodIn_r _ [33, 17, 18, 19, 3, 20, 12, 21, 22, 23, 24, 34, 35, 36, 37, 8, 9, 10, 11, 38, 39, 40, 41, 42, 43, 44, 45, 46, 47, 48, 49, 50, 51] (by decide +kernel) (by decide +kernel)
set_option maxRecDepth 20000 in
theorem gX9_cyclicMultiplicity_X9_cyclicPairs : GoodIn wsX9_cyclicMultiplicity (wsV RX9 108 RX9 yX9_cyclicPairs wsX9_cyclicPairs) := goodIn_app (goodIn_of _ (by decide +kernel)) ggX9_cyclicMultiplicity_X9_cyclicPairs
theorem dX9_cyclicMultiplicity_0 : decode cX9_cyclicMultiplicity 0 = .ok (.aload_n 0, 1) := by decide +kernel
theorem dX9_cyclicMultiplicity_1 : decode cX9_cyclicMultiplicity 1 = .ok (.iload_n 1, 1) := by decide +kernel
theorem dX9_cyclicMultiplicity_2 : decode cX9_cyclicMultiplicity 2 = .ok (.invokestatic 61, 3) := by decide +kernel
theorem dX9_cyclicMultiplicity_5 : decode cX9_cyclicMultiplicity 5 = .ok (.ifCond .ne 7, 3) := by decide +kernel
theorem dX9_cyclicMultiplicity_8 : decode cX9_cyclicMultiplicity 8 = .ok (.iconst 1, 1) := by decide +kernel
theorem dX9_cyclicMultiplicity_9 : decode cX9_cyclicMultiplicity 9 = .ok (.goto 34, 3) := by decide +kernel
theorem dX9_cyclicMultiplicity_12 : decode cX9_cyclicMultiplicity 12 = .ok (.iload_n 2, 1) := by decide +kernel
theorem dX9_cyclicMultiplicity_13 : decode cX9_cyclicMultiplicity 13 = .ok (.iconst 1, 1) := by decide +kernel
theorem dX9_cyclicMultiplicity_14 : decode cX9_cyclicMultiplicity 14 = .ok (.aload_n 0, 1) := by decide +kernel
theorem dX9_cyclicMultiplicity_15 : decode cX9_cyclicMultiplicity 15 = .ok (.invokevirtual 98, 3) := by decide +kernel
theorem dX9_cyclicMultiplicity_18 : decode cX9_cyclicMultiplicity 18 = .ok (.iconst 1, 1) := by decide +kernel
theorem dX9_cyclicMultiplicity_19 : decode cX9_cyclicMultiplicity 19 = .ok (.isub, 1) := by decide +kernel
theorem dX9_cyclicMultiplicity_20 : decode cX9_cyclicMultiplicity 20 = .ok (.invokestatic 32, 3) := by decide +kernel
theorem dX9_cyclicMultiplicity_23 : decode cX9_cyclicMultiplicity 23 = .ok (.ifCond .ne 7, 3) := by decide +kernel
theorem dX9_cyclicMultiplicity_26 : decode cX9_cyclicMultiplicity 26 = .ok (.iconst 2, 1) := by decide +kernel
theorem dX9_cyclicMultiplicity_27 : decode cX9_cyclicMultiplicity 27 = .ok (.goto 16, 3) := by decide +kernel
theorem dX9_cyclicMultiplicity_30 : decode cX9_cyclicMultiplicity 30 = .ok (.aload_n 0, 1) := by decide +kernel
theorem dX9_cyclicMultiplicity_31 : decode cX9_cyclicMultiplicity 31 = .ok (.iload_n 1, 1) := by decide +kernel
theorem dX9_cyclicMultiplicity_32 : decode cX9_cyclicMultiplicity 32 = .ok (.invokevirtual 105, 3) := by decide +kernel
theorem dX9_cyclicMultiplicity_35 : decode cX9_cyclicMultiplicity 35 = .ok (.ifCond .eq 7, 3) := by decide +kernel
theorem dX9_cyclicMultiplicity_38 : decode cX9_cyclicMultiplicity 38 = .ok (.iconst 0, 1) := by decide +kernel
theorem dX9_cyclicMultiplicity_39 : decode cX9_cyclicMultiplicity 39 = .ok (.goto 4, 3) := by decide +kernel
theorem dX9_cyclicMultiplicity_42 : decode cX9_cyclicMultiplicity 42 = .ok (.iconst 3, 1) := by decide +kernel
theorem dX9_cyclicMultiplicity_43 : decode cX9_cyclicMultiplicity 43 = .ok (.invokevirtual 39, 3) := by decide +kernel
theorem dX9_cyclicMultiplicity_46 : decode cX9_cyclicMultiplicity 46 = .ok (.ifCond .eq 7, 3) := by decide +kernel
theorem dX9_cyclicMultiplicity_49 : decode cX9_cyclicMultiplicity 49 = .ok (.iconst 0, 1) := by decide +kernel
theorem dX9_cyclicMultiplicity_50 : decode cX9_cyclicMultiplicity 50 = .ok (.goto 9, 3) := by decide +kernel
theorem dX9_cyclicMultiplicity_53 : decode cX9_cyclicMultiplicity 53 = .ok (.aload_n 0, 1) := by decide +kernel
theorem dX9_cyclicMultiplicity_54 : decode cX9_cyclicMultiplicity 54 = .ok (.iload_n 1, 1) := by decide +kernel
theorem dX9_cyclicMultiplicity_55 : decode cX9_cyclicMultiplicity 55 = .ok (.iload_n 2, 1) := by decide +kernel
theorem dX9_cyclicMultiplicity_56 : decode cX9_cyclicMultiplicity 56 = .ok (.invokevirtual 108, 3) := by decide +kernel
theorem dX9_cyclicMultiplicity_59 : decode cX9_cyclicMultiplicity 59 = .ok (.ireturn, 1) := by decide +kernel
set_option maxRecDepth 20000 in
theorem ggX9_isCyclicRuler_X9_bar : GoodIn wsX9_isCyclicRuler wsX9_bar := goodIn_r _ [5, 6, 7, 4, 8, 9, 10, 11, 12, 13, 14, 15, 16, 17, 18, 19, 20, 21, 22, 23, 24, 25, 26, 27, 28, 46, 47, 48, 49, 50, 51, 52, 53, 54, 55] (by decide +kernel) (by decide +kernel)
set_option maxRecDepth 20000 in
theorem gX9_isCyclicRuler_X9_bar : GoodIn wsX9_isCyclicRuler (wsV RX9 111 RX9 yX9_bar wsX9_bar) := goodIn_app (goodIn_of _ (by decide +kernel)) ggX9_isCyclicRuler_X9_bar
set_option maxRecDepth 20000 in
theorem ggX9_isCyclicRuler_X9_refused : GoodIn wsX9_isCyclicRuler wsX9_refused := goodIn_r _ [32, 33, 46, 47, 48, 49, 50, 51, 52, 53, 54, 55] (by decide +kernel) (by decide +kernel)
set_option maxRecDepth 20000 in
theorem gX9_isCyclicRuler_X9_refused : GoodIn wsX9_isCyclicRuler (wsV RX9 39 RX9 yX9_refused wsX9_refused) := goodIn_app (goodIn_of _ (by decide +kernel)) ggX9_isCyclicRuler_X9_refused
set_option maxRecDepth 20000 in
theorem ggX9_isCyclicRuler_X9_modulus : GoodIn wsX9_isCyclicRuler wsX9_modulus := goodIn_r _ [28, 20, 46, 47, 48, 49, 50, 51, 52, 53, 54, 55] (by decide +kernel) (by decide +kernel)
set_option maxRecDepth 20000 in
theorem gX9_isCyclicRuler_X9_modulus : GoodIn wsX9_isCyclicRuler (wsV RX9 98 RX9 yX9_modulus wsX9_modulus) := goodIn_app (goodIn_of _ (by decide +kernel)) ggX9_isCyclicRuler_X9_modulus
set_option maxRecDepth 20000 in
theorem ggX9_isCyclicRuler_X9_cyclicPairs : GoodIn wsX9_isCyclicRuler wsX9_cyclicPairs := goodIn_r _ [37, 16, 17, 18, 4, 19, 20, 21, 22, 23, 24, 38, 39, 40, 41, 25, 26, 27, 28, 42, 43, 44, 45, 46, 47, 48, 49, 50, 51, 52, 53, 54, 55] (by decide +kernel) (by decide +kernel)
set_option maxRecDepth 20000 in
theorem gX9_isCyclicRuler_X9_cyclicPairs : GoodIn wsX9_isCyclicRuler (wsV RX9 108 RX9 yX9_cyclicPairs wsX9_cyclicPairs) := goodIn_app (goodIn_of _ (by decide +kernel)) ggX9_isCyclicRuler_X9_cyclicPairs
theorem dX9_isCyclicRuler_0 : decode cX9_isCyclicRuler 0 = .ok (.aload_n 0, 1) := by decide +kernel
theorem dX9_isCyclicRuler_1 : decode cX9_isCyclicRuler 1 = .ok (.aload_n 0, 1) := by decide +kernel
theorem dX9_isCyclicRuler_2 : decode cX9_isCyclicRuler 2 = .ok (.iload_n 1, 1) := by decide +kernel
theorem dX9_isCyclicRuler_3 : decode cX9_isCyclicRuler 3 = .ok (.invokevirtual 111, 3) := by decide +kernel
theorem dX9_isCyclicRuler_6 : decode cX9_isCyclicRuler 6 = .ok (.invokevirtual 39, 3) := by decide +kernel
theorem dX9_isCyclicRuler_9 : decode cX9_isCyclicRuler 9 = .ok (.ifCond .eq 5, 3) := by decide +kernel
theorem dX9_isCyclicRuler_12 : decode cX9_isCyclicRuler 12 = .ok (.iconst 0, 1) := by decide +kernel
theorem dX9_isCyclicRuler_13 : decode cX9_isCyclicRuler 13 = .ok (.ireturn, 1) := by decide +kernel
theorem dX9_isCyclicRuler_14 : decode cX9_isCyclicRuler 14 = .ok (.iconst 1, 1) := by decide +kernel
theorem dX9_isCyclicRuler_15 : decode cX9_isCyclicRuler 15 = .ok (.istore_n 2, 1) := by decide +kernel
theorem dX9_isCyclicRuler_16 : decode cX9_isCyclicRuler 16 = .ok (.iconst 1, 1) := by decide +kernel
theorem dX9_isCyclicRuler_17 : decode cX9_isCyclicRuler 17 = .ok (.istore_n 3, 1) := by decide +kernel
theorem dX9_isCyclicRuler_18 : decode cX9_isCyclicRuler 18 = .ok (.iload_n 3, 1) := by decide +kernel
theorem dX9_isCyclicRuler_19 : decode cX9_isCyclicRuler 19 = .ok (.aload_n 0, 1) := by decide +kernel
theorem dX9_isCyclicRuler_20 : decode cX9_isCyclicRuler 20 = .ok (.invokevirtual 98, 3) := by decide +kernel
theorem dX9_isCyclicRuler_23 : decode cX9_isCyclicRuler 23 = .ok (.if_icmp .ge 29, 3) := by decide +kernel
theorem dX9_isCyclicRuler_26 : decode cX9_isCyclicRuler 26 = .ok (.iload_n 2, 1) := by decide +kernel
theorem dX9_isCyclicRuler_27 : decode cX9_isCyclicRuler 27 = .ok (.ifCond .eq 25, 3) := by decide +kernel
theorem dX9_isCyclicRuler_30 : decode cX9_isCyclicRuler 30 = .ok (.aload_n 0, 1) := by decide +kernel
theorem dX9_isCyclicRuler_31 : decode cX9_isCyclicRuler 31 = .ok (.iload_n 1, 1) := by decide +kernel
theorem dX9_isCyclicRuler_32 : decode cX9_isCyclicRuler 32 = .ok (.iload_n 3, 1) := by decide +kernel
theorem dX9_isCyclicRuler_33 : decode cX9_isCyclicRuler 33 = .ok (.invokevirtual 108, 3) := by decide +kernel
theorem dX9_isCyclicRuler_36 : decode cX9_isCyclicRuler 36 = .ok (.iconst 2, 1) := by decide +kernel
theorem dX9_isCyclicRuler_37 : decode cX9_isCyclicRuler 37 = .ok (.if_icmp .ge 7, 3) := by decide +kernel
theorem dX9_isCyclicRuler_40 : decode cX9_isCyclicRuler 40 = .ok (.iconst 1, 1) := by decide +kernel
theorem dX9_isCyclicRuler_41 : decode cX9_isCyclicRuler 41 = .ok (.goto 4, 3) := by decide +kernel
theorem dX9_isCyclicRuler_44 : decode cX9_isCyclicRuler 44 = .ok (.iconst 0, 1) := by decide +kernel
theorem dX9_isCyclicRuler_45 : decode cX9_isCyclicRuler 45 = .ok (.istore_n 2, 1) := by decide +kernel
theorem dX9_isCyclicRuler_46 : decode cX9_isCyclicRuler 46 = .ok (.iinc 3 1, 3) := by decide +kernel
theorem dX9_isCyclicRuler_49 : decode cX9_isCyclicRuler 49 = .ok (.goto (-31), 3) := by decide +kernel
theorem dX9_isCyclicRuler_52 : decode cX9_isCyclicRuler 52 = .ok (.iload_n 2, 1) := by decide +kernel
theorem dX9_isCyclicRuler_53 : decode cX9_isCyclicRuler 53 = .ok (.ireturn, 1) := by decide +kernel
set_option maxRecDepth 20000 in
theorem ggX9_indexOf_X9_cyclicPairs : GoodIn wsX9_indexOf wsX9_cyclicPairs := goodIn_r _ [5, 6, 7, 8, 4, 9, 10, 11, 12, 13, 14, 15, 16, 17, 18, 19, 20, 21, 22, 23, 24, 25, 26, 27, 28, 29, 30, 31, 32, 33, 34, 35, 36] (by decide +kernel) (by decide +kernel)
set_option maxRecDepth 20000 in
theorem gX9_indexOf_X9_cyclicPairs : GoodIn wsX9_indexOf (wsV RX9 108 RX9 yX9_cyclicPairs wsX9_cyclicPairs) := goodIn_app (goodIn_of _ (by decide +kernel)) ggX9_indexOf_X9_cyclicPairs
set_option maxRecDepth 20000 in
theorem ggX9_indexOf_X9_many : GoodIn wsX9_indexOf wsX9_many := goodIn_r _ [9, 10, 27, 28, 29, 30, 31, 32, 33, 34, 35, 36] (by decide +kernel) (by decide +kernel)
set_option maxRecDepth 20000 in
theorem gX9_indexOf_X9_many : GoodIn wsX9_indexOf (wsV RX9 46 RX9 yX9_many wsX9_many) := goodIn_app (goodIn_of _ (by decide +kernel)) ggX9_indexOf_X9_many
set_option maxRecDepth 20000 in
theorem ggX9_indexOf_X9_modulus : GoodIn wsX9_indexOf wsX9_modulus := goodIn_r _ [22, 10, 27, 28, 29, 30, 31, 32, 33, 34, 35, 36] (by decide +kernel) (by decide +kernel)
set_option maxRecDepth 20000 in
theorem gX9_indexOf_X9_modulus : GoodIn wsX9_indexOf (wsV RX9 98 RX9 yX9_modulus wsX9_modulus) := goodIn_app (goodIn_of _ (by decide +kernel)) ggX9_indexOf_X9_modulus
theorem dX9_indexOf_0 : decode cX9_indexOf 0 = .ok (.aload_n 0, 1) := by decide +kernel
theorem dX9_indexOf_1 : decode cX9_indexOf 1 = .ok (.iload_n 1, 1) := by decide +kernel
theorem dX9_indexOf_2 : decode cX9_indexOf 2 = .ok (.iconst 1, 1) := by decide +kernel
theorem dX9_indexOf_3 : decode cX9_indexOf 3 = .ok (.invokevirtual 108, 3) := by decide +kernel
theorem dX9_indexOf_6 : decode cX9_indexOf 6 = .ok (.istore_n 2, 1) := by decide +kernel
theorem dX9_indexOf_7 : decode cX9_indexOf 7 = .ok (.aload_n 0, 1) := by decide +kernel
theorem dX9_indexOf_8 : decode cX9_indexOf 8 = .ok (.iload_n 1, 1) := by decide +kernel
theorem dX9_indexOf_9 : decode cX9_indexOf 9 = .ok (.invokevirtual 46, 3) := by decide +kernel
theorem dX9_indexOf_12 : decode cX9_indexOf 12 = .ok (.iconst 1, 1) := by decide +kernel
theorem dX9_indexOf_13 : decode cX9_indexOf 13 = .ok (.if_icmp .le 7, 3) := by decide +kernel
theorem dX9_indexOf_16 : decode cX9_indexOf 16 = .ok (.iconst 1, 1) := by decide +kernel
theorem dX9_indexOf_17 : decode cX9_indexOf 17 = .ok (.goto 4, 3) := by decide +kernel
theorem dX9_indexOf_20 : decode cX9_indexOf 20 = .ok (.iconst 0, 1) := by decide +kernel
theorem dX9_indexOf_21 : decode cX9_indexOf 21 = .ok (.istore_n 3, 1) := by decide +kernel
theorem dX9_indexOf_22 : decode cX9_indexOf 22 = .ok (.iconst 2, 1) := by decide +kernel
theorem dX9_indexOf_23 : decode cX9_indexOf 23 = .ok (.istore 4, 2) := by decide +kernel
theorem dX9_indexOf_25 : decode cX9_indexOf 25 = .ok (.iload 4, 2) := by decide +kernel
theorem dX9_indexOf_27 : decode cX9_indexOf 27 = .ok (.aload_n 0, 1) := by decide +kernel
theorem dX9_indexOf_28 : decode cX9_indexOf 28 = .ok (.invokevirtual 98, 3) := by decide +kernel
theorem dX9_indexOf_31 : decode cX9_indexOf 31 = .ok (.if_icmp .ge 30, 3) := by decide +kernel
theorem dX9_indexOf_34 : decode cX9_indexOf 34 = .ok (.iload_n 3, 1) := by decide +kernel
theorem dX9_indexOf_35 : decode cX9_indexOf 35 = .ok (.ifCond .eq 26, 3) := by decide +kernel
theorem dX9_indexOf_38 : decode cX9_indexOf 38 = .ok (.aload_n 0, 1) := by decide +kernel
theorem dX9_indexOf_39 : decode cX9_indexOf 39 = .ok (.iload_n 1, 1) := by decide +kernel
theorem dX9_indexOf_40 : decode cX9_indexOf 40 = .ok (.iload 4, 2) := by decide +kernel
theorem dX9_indexOf_42 : decode cX9_indexOf 42 = .ok (.invokevirtual 108, 3) := by decide +kernel
theorem dX9_indexOf_45 : decode cX9_indexOf 45 = .ok (.iload_n 2, 1) := by decide +kernel
theorem dX9_indexOf_46 : decode cX9_indexOf 46 = .ok (.if_icmp .ne 7, 3) := by decide +kernel
theorem dX9_indexOf_49 : decode cX9_indexOf 49 = .ok (.iconst 1, 1) := by decide +kernel
theorem dX9_indexOf_50 : decode cX9_indexOf 50 = .ok (.goto 4, 3) := by decide +kernel
theorem dX9_indexOf_53 : decode cX9_indexOf 53 = .ok (.iconst 0, 1) := by decide +kernel
theorem dX9_indexOf_54 : decode cX9_indexOf 54 = .ok (.istore_n 3, 1) := by decide +kernel
theorem dX9_indexOf_55 : decode cX9_indexOf 55 = .ok (.iinc 4 1, 3) := by decide +kernel
theorem dX9_indexOf_58 : decode cX9_indexOf 58 = .ok (.goto (-33), 3) := by decide +kernel
theorem dX9_indexOf_61 : decode cX9_indexOf 61 = .ok (.iload_n 3, 1) := by decide +kernel
theorem dX9_indexOf_62 : decode cX9_indexOf 62 = .ok (.ifCond .eq 7, 3) := by decide +kernel
theorem dX9_indexOf_65 : decode cX9_indexOf 65 = .ok (.iload_n 2, 1) := by decide +kernel
theorem dX9_indexOf_66 : decode cX9_indexOf 66 = .ok (.goto 4, 3) := by decide +kernel
theorem dX9_indexOf_69 : decode cX9_indexOf 69 = .ok (.iconst (-1), 1) := by decide +kernel
theorem dX9_indexOf_70 : decode cX9_indexOf 70 = .ok (.ireturn, 1) := by decide +kernel
set_option maxRecDepth 20000 in
theorem ggX9_index_X9_bar : GoodIn wsX9_index wsX9_bar := goodIn_r _ [5, 6, 7, 4, 8, 9, 10, 11, 12, 13, 14, 15, 16, 17, 18, 19, 20, 21, 22, 23, 24, 25, 26, 27, 28, 50, 51, 52, 53, 54, 55, 56, 57, 58, 59] (by decide +kernel) (by decide +kernel)
set_option maxRecDepth 20000 in
theorem gX9_index_X9_bar : GoodIn wsX9_index (wsV RX9 111 RX9 yX9_bar wsX9_bar) := goodIn_app (goodIn_of _ (by decide +kernel)) ggX9_index_X9_bar
set_option maxRecDepth 20000 in
theorem ggX9_index_X9_refused : GoodIn wsX9_index wsX9_refused := goodIn_r _ [32, 33, 50, 51, 52, 53, 54, 55, 56, 57, 58, 59] (by decide +kernel) (by decide +kernel)
set_option maxRecDepth 20000 in
theorem gX9_index_X9_refused : GoodIn wsX9_index (wsV RX9 39 RX9 yX9_refused wsX9_refused) := goodIn_app (goodIn_of _ (by decide +kernel)) ggX9_index_X9_refused
set_option maxRecDepth 20000 in
theorem ggX9_index_X9_indexOf : GoodIn wsX9_index wsX9_indexOf := goodIn_r _ [37, 38, 39, 40, 4, 41, 16, 17, 18, 19, 20, 21, 22, 23, 24, 42, 43, 44, 45, 25, 26, 27, 28, 46, 47, 48, 49, 50, 51, 52, 53, 54, 55, 56, 57, 58, 59] (by decide +kernel) (by decide +kernel)
set_option maxRecDepth 20000 in
theorem gX9_index_X9_indexOf : GoodIn wsX9_index (wsV RX9 114 RX9 yX9_indexOf wsX9_indexOf) := goodIn_app (goodIn_of _ (by decide +kernel)) ggX9_index_X9_indexOf
theorem dX9_index_0 : decode cX9_index 0 = .ok (.aload_n 0, 1) := by decide +kernel
theorem dX9_index_1 : decode cX9_index 1 = .ok (.aload_n 0, 1) := by decide +kernel
theorem dX9_index_2 : decode cX9_index 2 = .ok (.iload_n 1, 1) := by decide +kernel
theorem dX9_index_3 : decode cX9_index 3 = .ok (.invokevirtual 111, 3) := by decide +kernel
theorem dX9_index_6 : decode cX9_index 6 = .ok (.invokevirtual 39, 3) := by decide +kernel
theorem dX9_index_9 : decode cX9_index 9 = .ok (.ifCond .eq 7, 3) := by decide +kernel
theorem dX9_index_12 : decode cX9_index 12 = .ok (.iconst 0, 1) := by decide +kernel
theorem dX9_index_13 : decode cX9_index 13 = .ok (.goto 8, 3) := by decide +kernel
theorem dX9_index_16 : decode cX9_index 16 = .ok (.aload_n 0, 1) := by decide +kernel
theorem dX9_index_17 : decode cX9_index 17 = .ok (.iload_n 1, 1) := by decide +kernel
theorem dX9_index_18 : decode cX9_index 18 = .ok (.invokevirtual 114, 3) := by decide +kernel
theorem dX9_index_21 : decode cX9_index 21 = .ok (.ireturn, 1) := by decide +kernel
set_option maxRecDepth 20000 in
theorem ggX9_map_X9_isSet : GoodIn wsX9_map wsX9_isSet := goodIn_r _ [4, 5, 6, 3, 7] (by decide +kernel) (by decide +kernel)
set_option maxRecDepth 20000 in
theorem gX9_map_X9_isSet : GoodIn wsX9_map (va_wsS RX9 61 yX9_isSet wsX9_isSet) := goodIn_app (goodIn_of _ (by decide +kernel)) ggX9_map_X9_isSet
set_option maxRecDepth 20000 in
theorem ggX9_map_X9_within : GoodIn wsX9_map wsX9_within := goodIn_r _ [7] (by decide +kernel) (by decide +kernel)
set_option maxRecDepth 20000 in
theorem gX9_map_X9_within : GoodIn wsX9_map (va_wsS RX9 32 yX9_within wsX9_within) := goodIn_app (goodIn_of _ (by decide +kernel)) ggX9_map_X9_within
set_option maxRecDepth 20000 in
theorem ggX9_map_X9_isLow : GoodIn wsX9_map wsX9_isLow := goodIn_r _ [11, 12, 13, 14, 3, 15, 16, 17, 18, 19, 20, 21, 22, 23, 24, 54, 55, 56, 57, 58, 59, 60, 61, 62, 63] (by decide +kernel) (by decide +kernel)
set_option maxRecDepth 20000 in
theorem gX9_map_X9_isLow : GoodIn wsX9_map (wsV RX9 105 RX9 yX9_isLow wsX9_isLow) := goodIn_app (goodIn_of _ (by decide +kernel)) ggX9_map_X9_isLow
set_option maxRecDepth 20000 in
theorem ggX9_map_X9_refused : GoodIn wsX9_map wsX9_refused := goodIn_r _ [28, 29, 54, 55, 56, 57, 58, 59, 60, 61, 62, 63] (by decide +kernel) (by decide +kernel)
set_option maxRecDepth 20000 in
theorem gX9_map_X9_refused : GoodIn wsX9_map (wsV RX9 39 RX9 yX9_refused wsX9_refused) := goodIn_app (goodIn_of _ (by decide +kernel)) ggX9_map_X9_refused
set_option maxRecDepth 20000 in
theorem ggX9_map_X9_saves : GoodIn wsX9_map wsX9_saves := goodIn_r _ [33, 34, 35, 16, 54, 55, 56, 57, 58, 59, 60, 61, 62, 63] (by decide +kernel) (by decide +kernel)
set_option maxRecDepth 20000 in
theorem gX9_map_X9_saves : GoodIn wsX9_map (wsV RX9 67 RX9 yX9_saves wsX9_saves) := goodIn_app (goodIn_of _ (by decide +kernel)) ggX9_map_X9_saves
set_option maxRecDepth 20000 in
theorem ggX9_map_X9_begins : GoodIn wsX9_map wsX9_begins := goodIn_r _ [39, 40, 54, 55, 56, 57, 58, 59, 60, 61, 62, 63] (by decide +kernel) (by decide +kernel)
set_option maxRecDepth 20000 in
theorem gX9_map_X9_begins : GoodIn wsX9_map (wsV RX9 54 RX9 yX9_begins wsX9_begins) := goodIn_app (goodIn_of _ (by decide +kernel)) ggX9_map_X9_begins
set_option maxRecDepth 20000 in
theorem ggX9_map_X9_many : GoodIn wsX9_map wsX9_many := goodIn_r _ [15, 16, 54, 55, 56, 57, 58, 59, 60, 61, 62, 63] (by decide +kernel) (by decide +kernel)
set_option maxRecDepth 20000 in
theorem gX9_map_X9_many : GoodIn wsX9_map (wsV RX9 46 RX9 yX9_many wsX9_many) := goodIn_app (goodIn_of _ (by decide +kernel)) ggX9_map_X9_many
set_option maxRecDepth 20000 in
theorem ggX9_map_X9_markAt : GoodIn wsX9_map wsX9_markAt := goodIn_r _ [20, 16, 54, 55, 56, 57, 58, 59, 60, 61, 62, 63] (by decide +kernel) (by decide +kernel)
set_option maxRecDepth 20000 in
theorem gX9_map_X9_markAt : GoodIn wsX9_map (wsV RX9 50 RX9 yX9_markAt wsX9_markAt) := goodIn_app (goodIn_of _ (by decide +kernel)) ggX9_map_X9_markAt
set_option maxRecDepth 20000 in
theorem ggX9_map_X9_around : GoodIn wsX9_map wsX9_around := goodIn_r _ [44, 21, 22, 23, 3, 24, 16, 54, 55, 56, 57, 58, 59, 60, 61, 62, 63] (by decide +kernel) (by decide +kernel)
set_option maxRecDepth 20000 in
theorem gX9_map_X9_around : GoodIn wsX9_map (wsV RX9 102 RX9 yX9_around wsX9_around) := goodIn_app (goodIn_of _ (by decide +kernel)) ggX9_map_X9_around
set_option maxRecDepth 20000 in
theorem ggX9_map_X9_comes : GoodIn wsX9_map wsX9_comes := goodIn_r _ [48, 40, 49, 54, 55, 56, 57, 58, 59, 60, 61, 62, 63] (by decide +kernel) (by decide +kernel)
set_option maxRecDepth 20000 in
theorem gX9_map_X9_comes : GoodIn wsX9_map (wsV RX9 57 RX9 yX9_comes wsX9_comes) := goodIn_app (goodIn_of _ (by decide +kernel)) ggX9_map_X9_comes
set_option maxRecDepth 20000 in
theorem ggX9_map_X9_becomes : GoodIn wsX9_map wsX9_becomes := goodIn_r _ [53, 16, 40, 49, 54, 55, 56, 57, 58, 59, 60, 61, 62, 63] (by decide +kernel) (by decide +kernel)
set_option maxRecDepth 20000 in
theorem gX9_map_X9_becomes : GoodIn wsX9_map (wsV RX9 74 RX9 yX9_becomes wsX9_becomes) := goodIn_app (goodIn_of _ (by decide +kernel)) ggX9_map_X9_becomes
theorem dX9_map_0 : decode cX9_map 0 = .ok (.aload_n 0, 1) := by decide +kernel
theorem dX9_map_1 : decode cX9_map 1 = .ok (.iload_n 1, 1) := by decide +kernel
theorem dX9_map_2 : decode cX9_map 2 = .ok (.invokestatic 61, 3) := by decide +kernel
theorem dX9_map_5 : decode cX9_map 5 = .ok (.ifCond .eq 11, 3) := by decide +kernel
theorem dX9_map_8 : decode cX9_map 8 = .ok (.iload 4, 2) := by decide +kernel
theorem dX9_map_10 : decode cX9_map 10 = .ok (.invokestatic 61, 3) := by decide +kernel
theorem dX9_map_13 : decode cX9_map 13 = .ok (.ifCond .ne 7, 3) := by decide +kernel
theorem dX9_map_16 : decode cX9_map 16 = .ok (.iconst 1, 1) := by decide +kernel
theorem dX9_map_17 : decode cX9_map 17 = .ok (.goto 42, 3) := by decide +kernel
theorem dX9_map_20 : decode cX9_map 20 = .ok (.iload_n 2, 1) := by decide +kernel
theorem dX9_map_21 : decode cX9_map 21 = .ok (.iconst 0, 1) := by decide +kernel
theorem dX9_map_22 : decode cX9_map 22 = .ok (.sipush 1000, 3) := by decide +kernel
theorem dX9_map_25 : decode cX9_map 25 = .ok (.invokestatic 32, 3) := by decide +kernel
theorem dX9_map_28 : decode cX9_map 28 = .ok (.ifCond .eq 14, 3) := by decide +kernel
theorem dX9_map_31 : decode cX9_map 31 = .ok (.iload_n 3, 1) := by decide +kernel
theorem dX9_map_32 : decode cX9_map 32 = .ok (.iconst 0, 1) := by decide +kernel
theorem dX9_map_33 : decode cX9_map 33 = .ok (.sipush 1000, 3) := by decide +kernel
theorem dX9_map_36 : decode cX9_map 36 = .ok (.invokestatic 32, 3) := by decide +kernel
theorem dX9_map_39 : decode cX9_map 39 = .ok (.ifCond .ne 7, 3) := by decide +kernel
theorem dX9_map_42 : decode cX9_map 42 = .ok (.iconst 2, 1) := by decide +kernel
theorem dX9_map_43 : decode cX9_map 43 = .ok (.goto 16, 3) := by decide +kernel
theorem dX9_map_46 : decode cX9_map 46 = .ok (.aload_n 0, 1) := by decide +kernel
theorem dX9_map_47 : decode cX9_map 47 = .ok (.iload_n 1, 1) := by decide +kernel
theorem dX9_map_48 : decode cX9_map 48 = .ok (.invokevirtual 105, 3) := by decide +kernel
theorem dX9_map_51 : decode cX9_map 51 = .ok (.ifCond .eq 7, 3) := by decide +kernel
theorem dX9_map_54 : decode cX9_map 54 = .ok (.iconst 0, 1) := by decide +kernel
theorem dX9_map_55 : decode cX9_map 55 = .ok (.goto 4, 3) := by decide +kernel
theorem dX9_map_58 : decode cX9_map 58 = .ok (.iconst 3, 1) := by decide +kernel
theorem dX9_map_59 : decode cX9_map 59 = .ok (.invokevirtual 39, 3) := by decide +kernel
theorem dX9_map_62 : decode cX9_map 62 = .ok (.ifCond .eq 5, 3) := by decide +kernel
theorem dX9_map_65 : decode cX9_map 65 = .ok (.iconst 0, 1) := by decide +kernel
theorem dX9_map_66 : decode cX9_map 66 = .ok (.ireturn, 1) := by decide +kernel
theorem dX9_map_67 : decode cX9_map 67 = .ok (.aload_n 0, 1) := by decide +kernel
theorem dX9_map_68 : decode cX9_map 68 = .ok (.invokevirtual 67, 3) := by decide +kernel
theorem dX9_map_71 : decode cX9_map 71 = .ok (.aload_n 0, 1) := by decide +kernel
theorem dX9_map_72 : decode cX9_map 72 = .ok (.invokevirtual 54, 3) := by decide +kernel
theorem dX9_map_75 : decode cX9_map 75 = .ok (.iconst 0, 1) := by decide +kernel
theorem dX9_map_76 : decode cX9_map 76 = .ok (.istore 5, 2) := by decide +kernel
theorem dX9_map_78 : decode cX9_map 78 = .ok (.iload 5, 2) := by decide +kernel
theorem dX9_map_80 : decode cX9_map 80 = .ok (.aload_n 0, 1) := by decide +kernel
theorem dX9_map_81 : decode cX9_map 81 = .ok (.iload_n 1, 1) := by decide +kernel
theorem dX9_map_82 : decode cX9_map 82 = .ok (.invokevirtual 46, 3) := by decide +kernel
theorem dX9_map_85 : decode cX9_map 85 = .ok (.if_icmp .ge 28, 3) := by decide +kernel
theorem dX9_map_88 : decode cX9_map 88 = .ok (.aload_n 0, 1) := by decide +kernel
theorem dX9_map_89 : decode cX9_map 89 = .ok (.aload_n 0, 1) := by decide +kernel
theorem dX9_map_90 : decode cX9_map 90 = .ok (.iload_n 2, 1) := by decide +kernel
theorem dX9_map_91 : decode cX9_map 91 = .ok (.aload_n 0, 1) := by decide +kernel
theorem dX9_map_92 : decode cX9_map 92 = .ok (.iload_n 1, 1) := by decide +kernel
theorem dX9_map_93 : decode cX9_map 93 = .ok (.iload 5, 2) := by decide +kernel
theorem dX9_map_95 : decode cX9_map 95 = .ok (.invokevirtual 50, 3) := by decide +kernel
theorem dX9_map_98 : decode cX9_map 98 = .ok (.imul, 1) := by decide +kernel
theorem dX9_map_99 : decode cX9_map 99 = .ok (.iload_n 3, 1) := by decide +kernel
theorem dX9_map_100 : decode cX9_map 100 = .ok (.iadd, 1) := by decide +kernel
theorem dX9_map_101 : decode cX9_map 101 = .ok (.invokevirtual 102, 3) := by decide +kernel
theorem dX9_map_104 : decode cX9_map 104 = .ok (.invokevirtual 57, 3) := by decide +kernel
theorem dX9_map_107 : decode cX9_map 107 = .ok (.iinc 5 1, 3) := by decide +kernel
theorem dX9_map_110 : decode cX9_map 110 = .ok (.goto (-32), 3) := by decide +kernel
theorem dX9_map_113 : decode cX9_map 113 = .ok (.aload_n 0, 1) := by decide +kernel
theorem dX9_map_114 : decode cX9_map 114 = .ok (.iload 4, 2) := by decide +kernel
theorem dX9_map_116 : decode cX9_map 116 = .ok (.invokevirtual 74, 3) := by decide +kernel
theorem dX9_map_119 : decode cX9_map 119 = .ok (.ireturn, 1) := by decide +kernel
set_option maxRecDepth 20000 in
theorem ggX9_complement_X9_isSet : GoodIn wsX9_complement wsX9_isSet := goodIn_r _ [4, 5, 6, 3, 7] (by decide +kernel) (by decide +kernel)
set_option maxRecDepth 20000 in
theorem gX9_complement_X9_isSet : GoodIn wsX9_complement (va_wsS RX9 61 yX9_isSet wsX9_isSet) := goodIn_app (goodIn_of _ (by decide +kernel)) ggX9_complement_X9_isSet
set_option maxRecDepth 20000 in
theorem ggX9_complement_X9_isLow : GoodIn wsX9_complement wsX9_isLow := goodIn_r _ [11, 12, 13, 14, 3, 15, 16, 17, 18, 19, 20, 21, 22, 23, 24, 54, 55, 56, 57, 58, 59, 60, 61, 62, 63] (by decide +kernel) (by decide +kernel)
set_option maxRecDepth 20000 in
theorem gX9_complement_X9_isLow : GoodIn wsX9_complement (wsV RX9 105 RX9 yX9_isLow wsX9_isLow) := goodIn_app (goodIn_of _ (by decide +kernel)) ggX9_complement_X9_isLow
set_option maxRecDepth 20000 in
theorem ggX9_complement_X9_modulus : GoodIn wsX9_complement wsX9_modulus := goodIn_r _ [24, 16, 54, 55, 56, 57, 58, 59, 60, 61, 62, 63] (by decide +kernel) (by decide +kernel)
set_option maxRecDepth 20000 in
theorem gX9_complement_X9_modulus : GoodIn wsX9_complement (wsV RX9 98 RX9 yX9_modulus wsX9_modulus) := goodIn_app (goodIn_of _ (by decide +kernel)) ggX9_complement_X9_modulus
set_option maxRecDepth 20000 in
theorem ggX9_complement_X9_many : GoodIn wsX9_complement wsX9_many := goodIn_r _ [15, 16, 54, 55, 56, 57, 58, 59, 60, 61, 62, 63] (by decide +kernel) (by decide +kernel)
set_option maxRecDepth 20000 in
theorem gX9_complement_X9_many : GoodIn wsX9_complement (wsV RX9 46 RX9 yX9_many wsX9_many) := goodIn_app (goodIn_of _ (by decide +kernel)) ggX9_complement_X9_many
set_option maxRecDepth 20000 in
theorem ggX9_complement_X9_refused : GoodIn wsX9_complement wsX9_refused := goodIn_r _ [28, 29, 54, 55, 56, 57, 58, 59, 60, 61, 62, 63] (by decide +kernel) (by decide +kernel)
set_option maxRecDepth 20000 in
theorem gX9_complement_X9_refused : GoodIn wsX9_complement (wsV RX9 39 RX9 yX9_refused wsX9_refused) := goodIn_app (goodIn_of _ (by decide +kernel)) ggX9_complement_X9_refused
set_option maxRecDepth 20000 in
theorem ggX9_complement_X9_saves : GoodIn wsX9_complement wsX9_saves := goodIn_r _ [33, 34, 35, 16, 54, 55, 56, 57, 58, 59, 60, 61, 62, 63] (by decide +kernel) (by decide +kernel)
set_option maxRecDepth 20000 in
theorem gX9_complement_X9_saves : GoodIn wsX9_complement (wsV RX9 67 RX9 yX9_saves wsX9_saves) := goodIn_app (goodIn_of _ (by decide +kernel)) ggX9_complement_X9_saves
set_option maxRecDepth 20000 in
theorem ggX9_complement_X9_begins : GoodIn wsX9_complement wsX9_begins := goodIn_r _ [39, 40, 54, 55, 56, 57, 58, 59, 60, 61, 62, 63] (by decide +kernel) (by decide +kernel)
set_option maxRecDepth 20000 in
theorem gX9_complement_X9_begins : GoodIn wsX9_complement (wsV RX9 54 RX9 yX9_begins wsX9_begins) := goodIn_app (goodIn_of _ (by decide +kernel)) ggX9_complement_X9_begins
set_option maxRecDepth 20000 in
theorem ggX9_complement_X9_numberOf : GoodIn wsX9_complement wsX9_numberOf := goodIn_r _ [44, 12, 13, 14, 3, 15, 16, 17, 18, 19, 20, 54, 55, 56, 57, 58, 59, 60, 61, 62, 63] (by decide +kernel) (by decide +kernel)
set_option maxRecDepth 20000 in
theorem gX9_complement_X9_numberOf : GoodIn wsX9_complement (wsV RX9 64 RX9 yX9_numberOf wsX9_numberOf) := goodIn_app (goodIn_of _ (by decide +kernel)) ggX9_complement_X9_numberOf
set_option maxRecDepth 20000 in
theorem ggX9_complement_X9_comes : GoodIn wsX9_complement wsX9_comes := goodIn_r _ [48, 40, 49, 54, 55, 56, 57, 58, 59, 60, 61, 62, 63] (by decide +kernel) (by decide +kernel)
set_option maxRecDepth 20000 in
theorem gX9_complement_X9_comes : GoodIn wsX9_complement (wsV RX9 57 RX9 yX9_comes wsX9_comes) := goodIn_app (goodIn_of _ (by decide +kernel)) ggX9_complement_X9_comes
set_option maxRecDepth 20000 in
theorem ggX9_complement_X9_becomes : GoodIn wsX9_complement wsX9_becomes := goodIn_r _ [53, 16, 40, 49, 54, 55, 56, 57, 58, 59, 60, 61, 62, 63] (by decide +kernel) (by decide +kernel)
set_option maxRecDepth 20000 in
theorem gX9_complement_X9_becomes : GoodIn wsX9_complement (wsV RX9 74 RX9 yX9_becomes wsX9_becomes) := goodIn_app (goodIn_of _ (by decide +kernel)) ggX9_complement_X9_becomes
theorem dX9_complement_0 : decode cX9_complement 0 = .ok (.aload_n 0, 1) := by decide +kernel
theorem dX9_complement_1 : decode cX9_complement 1 = .ok (.iload_n 1, 1) := by decide +kernel
theorem dX9_complement_2 : decode cX9_complement 2 = .ok (.invokestatic 61, 3) := by decide +kernel
theorem dX9_complement_5 : decode cX9_complement 5 = .ok (.ifCond .eq 10, 3) := by decide +kernel
theorem dX9_complement_8 : decode cX9_complement 8 = .ok (.iload_n 2, 1) := by decide +kernel
theorem dX9_complement_9 : decode cX9_complement 9 = .ok (.invokestatic 61, 3) := by decide +kernel
theorem dX9_complement_12 : decode cX9_complement 12 = .ok (.ifCond .ne 7, 3) := by decide +kernel
theorem dX9_complement_15 : decode cX9_complement 15 = .ok (.iconst 1, 1) := by decide +kernel
theorem dX9_complement_16 : decode cX9_complement 16 = .ok (.goto 31, 3) := by decide +kernel
theorem dX9_complement_19 : decode cX9_complement 19 = .ok (.aload_n 0, 1) := by decide +kernel
theorem dX9_complement_20 : decode cX9_complement 20 = .ok (.iload_n 1, 1) := by decide +kernel
theorem dX9_complement_21 : decode cX9_complement 21 = .ok (.invokevirtual 105, 3) := by decide +kernel
theorem dX9_complement_24 : decode cX9_complement 24 = .ok (.ifCond .eq 18, 3) := by decide +kernel
theorem dX9_complement_27 : decode cX9_complement 27 = .ok (.aload_n 0, 1) := by decide +kernel
theorem dX9_complement_28 : decode cX9_complement 28 = .ok (.invokevirtual 98, 3) := by decide +kernel
theorem dX9_complement_31 : decode cX9_complement 31 = .ok (.aload_n 0, 1) := by decide +kernel
theorem dX9_complement_32 : decode cX9_complement 32 = .ok (.iload_n 1, 1) := by decide +kernel
theorem dX9_complement_33 : decode cX9_complement 33 = .ok (.invokevirtual 46, 3) := by decide +kernel
theorem dX9_complement_36 : decode cX9_complement 36 = .ok (.isub, 1) := by decide +kernel
theorem dX9_complement_37 : decode cX9_complement 37 = .ok (.bipush 24, 2) := by decide +kernel
theorem dX9_complement_39 : decode cX9_complement 39 = .ok (.if_icmp .le 7, 3) := by decide +kernel
theorem dX9_complement_42 : decode cX9_complement 42 = .ok (.iconst 2, 1) := by decide +kernel
theorem dX9_complement_43 : decode cX9_complement 43 = .ok (.goto 4, 3) := by decide +kernel
theorem dX9_complement_46 : decode cX9_complement 46 = .ok (.iconst 0, 1) := by decide +kernel
theorem dX9_complement_47 : decode cX9_complement 47 = .ok (.invokevirtual 39, 3) := by decide +kernel
theorem dX9_complement_50 : decode cX9_complement 50 = .ok (.ifCond .eq 5, 3) := by decide +kernel
theorem dX9_complement_53 : decode cX9_complement 53 = .ok (.iconst 0, 1) := by decide +kernel
theorem dX9_complement_54 : decode cX9_complement 54 = .ok (.ireturn, 1) := by decide +kernel
theorem dX9_complement_55 : decode cX9_complement 55 = .ok (.aload_n 0, 1) := by decide +kernel
theorem dX9_complement_56 : decode cX9_complement 56 = .ok (.invokevirtual 67, 3) := by decide +kernel
theorem dX9_complement_59 : decode cX9_complement 59 = .ok (.aload_n 0, 1) := by decide +kernel
theorem dX9_complement_60 : decode cX9_complement 60 = .ok (.invokevirtual 54, 3) := by decide +kernel
theorem dX9_complement_63 : decode cX9_complement 63 = .ok (.iconst 0, 1) := by decide +kernel
theorem dX9_complement_64 : decode cX9_complement 64 = .ok (.istore_n 3, 1) := by decide +kernel
theorem dX9_complement_65 : decode cX9_complement 65 = .ok (.iload_n 3, 1) := by decide +kernel
theorem dX9_complement_66 : decode cX9_complement 66 = .ok (.aload_n 0, 1) := by decide +kernel
theorem dX9_complement_67 : decode cX9_complement 67 = .ok (.invokevirtual 98, 3) := by decide +kernel
theorem dX9_complement_70 : decode cX9_complement 70 = .ok (.if_icmp .ge 24, 3) := by decide +kernel
theorem dX9_complement_73 : decode cX9_complement 73 = .ok (.aload_n 0, 1) := by decide +kernel
theorem dX9_complement_74 : decode cX9_complement 74 = .ok (.iload_n 1, 1) := by decide +kernel
theorem dX9_complement_75 : decode cX9_complement 75 = .ok (.iload_n 3, 1) := by decide +kernel
theorem dX9_complement_76 : decode cX9_complement 76 = .ok (.invokevirtual 64, 3) := by decide +kernel
theorem dX9_complement_79 : decode cX9_complement 79 = .ok (.iconst (-1), 1) := by decide +kernel
theorem dX9_complement_80 : decode cX9_complement 80 = .ok (.if_icmp .ne 8, 3) := by decide +kernel
theorem dX9_complement_83 : decode cX9_complement 83 = .ok (.aload_n 0, 1) := by decide +kernel
theorem dX9_complement_84 : decode cX9_complement 84 = .ok (.iload_n 3, 1) := by decide +kernel
theorem dX9_complement_85 : decode cX9_complement 85 = .ok (.invokevirtual 57, 3) := by decide +kernel
theorem dX9_complement_88 : decode cX9_complement 88 = .ok (.iinc 3 1, 3) := by decide +kernel
theorem dX9_complement_91 : decode cX9_complement 91 = .ok (.goto (-26), 3) := by decide +kernel
theorem dX9_complement_94 : decode cX9_complement 94 = .ok (.aload_n 0, 1) := by decide +kernel
theorem dX9_complement_95 : decode cX9_complement 95 = .ok (.iload_n 2, 1) := by decide +kernel
theorem dX9_complement_96 : decode cX9_complement 96 = .ok (.invokevirtual 74, 3) := by decide +kernel
theorem dX9_complement_99 : decode cX9_complement 99 = .ok (.ireturn, 1) := by decide +kernel
set_option maxRecDepth 20000 in
theorem ggX9_reflect_X9_isSet : GoodIn wsX9_reflect wsX9_isSet := goodIn_r _ [4, 5, 6, 3, 7] (by decide +kernel) (by decide +kernel)
set_option maxRecDepth 20000 in
theorem gX9_reflect_X9_isSet : GoodIn wsX9_reflect (va_wsS RX9 61 yX9_isSet wsX9_isSet) := goodIn_app (goodIn_of _ (by decide +kernel)) ggX9_reflect_X9_isSet
set_option maxRecDepth 20000 in
theorem ggX9_reflect_X9_refused : GoodIn wsX9_reflect wsX9_refused := goodIn_r _ [11, 12, 42, 43, 44, 45, 46, 47, 48, 49, 50, 51] (by decide +kernel) (by decide +kernel)
set_option maxRecDepth 20000 in
theorem gX9_reflect_X9_refused : GoodIn wsX9_reflect (wsV RX9 39 RX9 yX9_refused wsX9_refused) := goodIn_app (goodIn_of _ (by decide +kernel)) ggX9_reflect_X9_refused
set_option maxRecDepth 20000 in
theorem ggX9_reflect_X9_saves : GoodIn wsX9_reflect wsX9_saves := goodIn_r _ [16, 17, 18, 19, 42, 43, 44, 45, 46, 47, 48, 49, 50, 51] (by decide +kernel) (by decide +kernel)
set_option maxRecDepth 20000 in
theorem gX9_reflect_X9_saves : GoodIn wsX9_reflect (wsV RX9 67 RX9 yX9_saves wsX9_saves) := goodIn_app (goodIn_of _ (by decide +kernel)) ggX9_reflect_X9_saves
set_option maxRecDepth 20000 in
theorem ggX9_reflect_X9_begins : GoodIn wsX9_reflect wsX9_begins := goodIn_r _ [23, 24, 42, 43, 44, 45, 46, 47, 48, 49, 50, 51] (by decide +kernel) (by decide +kernel)
set_option maxRecDepth 20000 in
theorem gX9_reflect_X9_begins : GoodIn wsX9_reflect (wsV RX9 54 RX9 yX9_begins wsX9_begins) := goodIn_app (goodIn_of _ (by decide +kernel)) ggX9_reflect_X9_begins
set_option maxRecDepth 20000 in
theorem ggX9_reflect_X9_many : GoodIn wsX9_reflect wsX9_many := goodIn_r _ [28, 19, 42, 43, 44, 45, 46, 47, 48, 49, 50, 51] (by decide +kernel) (by decide +kernel)
set_option maxRecDepth 20000 in
theorem gX9_reflect_X9_many : GoodIn wsX9_reflect (wsV RX9 46 RX9 yX9_many wsX9_many) := goodIn_app (goodIn_of _ (by decide +kernel)) ggX9_reflect_X9_many
set_option maxRecDepth 20000 in
theorem ggX9_reflect_X9_markAt : GoodIn wsX9_reflect wsX9_markAt := goodIn_r _ [32, 19, 42, 43, 44, 45, 46, 47, 48, 49, 50, 51] (by decide +kernel) (by decide +kernel)
set_option maxRecDepth 20000 in
theorem gX9_reflect_X9_markAt : GoodIn wsX9_reflect (wsV RX9 50 RX9 yX9_markAt wsX9_markAt) := goodIn_app (goodIn_of _ (by decide +kernel)) ggX9_reflect_X9_markAt
set_option maxRecDepth 20000 in
theorem ggX9_reflect_X9_comes : GoodIn wsX9_reflect wsX9_comes := goodIn_r _ [36, 24, 37, 42, 43, 44, 45, 46, 47, 48, 49, 50, 51] (by decide +kernel) (by decide +kernel)
set_option maxRecDepth 20000 in
theorem gX9_reflect_X9_comes : GoodIn wsX9_reflect (wsV RX9 57 RX9 yX9_comes wsX9_comes) := goodIn_app (goodIn_of _ (by decide +kernel)) ggX9_reflect_X9_comes
set_option maxRecDepth 20000 in
theorem ggX9_reflect_X9_becomes : GoodIn wsX9_reflect wsX9_becomes := goodIn_r _ [41, 19, 24, 37, 42, 43, 44, 45, 46, 47, 48, 49, 50, 51] (by decide +kernel) (by decide +kernel)
set_option maxRecDepth 20000 in
theorem gX9_reflect_X9_becomes : GoodIn wsX9_reflect (wsV RX9 74 RX9 yX9_becomes wsX9_becomes) := goodIn_app (goodIn_of _ (by decide +kernel)) ggX9_reflect_X9_becomes
theorem dX9_reflect_0 : decode cX9_reflect 0 = .ok (.aload_n 0, 1) := by decide +kernel
theorem dX9_reflect_1 : decode cX9_reflect 1 = .ok (.iload_n 1, 1) := by decide +kernel
theorem dX9_reflect_2 : decode cX9_reflect 2 = .ok (.invokestatic 61, 3) := by decide +kernel
theorem dX9_reflect_5 : decode cX9_reflect 5 = .ok (.ifCond .eq 14, 3) := by decide +kernel
theorem dX9_reflect_8 : decode cX9_reflect 8 = .ok (.iload_n 2, 1) := by decide +kernel
theorem dX9_reflect_9 : decode cX9_reflect 9 = .ok (.invokestatic 61, 3) := by decide +kernel
theorem dX9_reflect_12 : decode cX9_reflect 12 = .ok (.ifCond .eq 7, 3) := by decide +kernel
theorem dX9_reflect_15 : decode cX9_reflect 15 = .ok (.iconst 0, 1) := by decide +kernel
theorem dX9_reflect_16 : decode cX9_reflect 16 = .ok (.goto 4, 3) := by decide +kernel
theorem dX9_reflect_19 : decode cX9_reflect 19 = .ok (.iconst 1, 1) := by decide +kernel
theorem dX9_reflect_20 : decode cX9_reflect 20 = .ok (.invokevirtual 39, 3) := by decide +kernel
theorem dX9_reflect_23 : decode cX9_reflect 23 = .ok (.ifCond .eq 5, 3) := by decide +kernel
theorem dX9_reflect_26 : decode cX9_reflect 26 = .ok (.iconst 0, 1) := by decide +kernel
theorem dX9_reflect_27 : decode cX9_reflect 27 = .ok (.ireturn, 1) := by decide +kernel
theorem dX9_reflect_28 : decode cX9_reflect 28 = .ok (.aload_n 0, 1) := by decide +kernel
theorem dX9_reflect_29 : decode cX9_reflect 29 = .ok (.invokevirtual 67, 3) := by decide +kernel
theorem dX9_reflect_32 : decode cX9_reflect 32 = .ok (.aload_n 0, 1) := by decide +kernel
theorem dX9_reflect_33 : decode cX9_reflect 33 = .ok (.invokevirtual 54, 3) := by decide +kernel
theorem dX9_reflect_36 : decode cX9_reflect 36 = .ok (.iconst 0, 1) := by decide +kernel
theorem dX9_reflect_37 : decode cX9_reflect 37 = .ok (.istore_n 3, 1) := by decide +kernel
theorem dX9_reflect_38 : decode cX9_reflect 38 = .ok (.iload_n 3, 1) := by decide +kernel
theorem dX9_reflect_39 : decode cX9_reflect 39 = .ok (.aload_n 0, 1) := by decide +kernel
theorem dX9_reflect_40 : decode cX9_reflect 40 = .ok (.iload_n 1, 1) := by decide +kernel
theorem dX9_reflect_41 : decode cX9_reflect 41 = .ok (.invokevirtual 46, 3) := by decide +kernel
theorem dX9_reflect_44 : decode cX9_reflect 44 = .ok (.if_icmp .ge 32, 3) := by decide +kernel
theorem dX9_reflect_47 : decode cX9_reflect 47 = .ok (.aload_n 0, 1) := by decide +kernel
theorem dX9_reflect_48 : decode cX9_reflect 48 = .ok (.aload_n 0, 1) := by decide +kernel
theorem dX9_reflect_49 : decode cX9_reflect 49 = .ok (.iload_n 1, 1) := by decide +kernel
theorem dX9_reflect_50 : decode cX9_reflect 50 = .ok (.aload_n 0, 1) := by decide +kernel
theorem dX9_reflect_51 : decode cX9_reflect 51 = .ok (.iload_n 1, 1) := by decide +kernel
theorem dX9_reflect_52 : decode cX9_reflect 52 = .ok (.invokevirtual 46, 3) := by decide +kernel
theorem dX9_reflect_55 : decode cX9_reflect 55 = .ok (.iconst 1, 1) := by decide +kernel
theorem dX9_reflect_56 : decode cX9_reflect 56 = .ok (.isub, 1) := by decide +kernel
theorem dX9_reflect_57 : decode cX9_reflect 57 = .ok (.invokevirtual 50, 3) := by decide +kernel
theorem dX9_reflect_60 : decode cX9_reflect 60 = .ok (.aload_n 0, 1) := by decide +kernel
theorem dX9_reflect_61 : decode cX9_reflect 61 = .ok (.iload_n 1, 1) := by decide +kernel
theorem dX9_reflect_62 : decode cX9_reflect 62 = .ok (.iload_n 3, 1) := by decide +kernel
theorem dX9_reflect_63 : decode cX9_reflect 63 = .ok (.invokevirtual 50, 3) := by decide +kernel
theorem dX9_reflect_66 : decode cX9_reflect 66 = .ok (.isub, 1) := by decide +kernel
theorem dX9_reflect_67 : decode cX9_reflect 67 = .ok (.invokevirtual 57, 3) := by decide +kernel
theorem dX9_reflect_70 : decode cX9_reflect 70 = .ok (.iinc 3 1, 3) := by decide +kernel
theorem dX9_reflect_73 : decode cX9_reflect 73 = .ok (.goto (-35), 3) := by decide +kernel
theorem dX9_reflect_76 : decode cX9_reflect 76 = .ok (.aload_n 0, 1) := by decide +kernel
theorem dX9_reflect_77 : decode cX9_reflect 77 = .ok (.iload_n 2, 1) := by decide +kernel
theorem dX9_reflect_78 : decode cX9_reflect 78 = .ok (.invokevirtual 74, 3) := by decide +kernel
theorem dX9_reflect_81 : decode cX9_reflect 81 = .ok (.ireturn, 1) := by decide +kernel
theorem dX9_divisor_0 : decode cX9_divisor 0 = .ok (.iload_n 0, 1) := by decide +kernel
theorem dX9_divisor_1 : decode cX9_divisor 1 = .ok (.istore_n 2, 1) := by decide +kernel
theorem dX9_divisor_2 : decode cX9_divisor 2 = .ok (.iload_n 1, 1) := by decide +kernel
theorem dX9_divisor_3 : decode cX9_divisor 3 = .ok (.istore_n 3, 1) := by decide +kernel
theorem dX9_divisor_4 : decode cX9_divisor 4 = .ok (.iload_n 3, 1) := by decide +kernel
theorem dX9_divisor_5 : decode cX9_divisor 5 = .ok (.ifCond .eq 16, 3) := by decide +kernel
theorem dX9_divisor_8 : decode cX9_divisor 8 = .ok (.iload_n 2, 1) := by decide +kernel
theorem dX9_divisor_9 : decode cX9_divisor 9 = .ok (.iload_n 3, 1) := by decide +kernel
theorem dX9_divisor_10 : decode cX9_divisor 10 = .ok (.irem, 1) := by decide +kernel
theorem dX9_divisor_11 : decode cX9_divisor 11 = .ok (.istore 4, 2) := by decide +kernel
theorem dX9_divisor_13 : decode cX9_divisor 13 = .ok (.iload_n 3, 1) := by decide +kernel
theorem dX9_divisor_14 : decode cX9_divisor 14 = .ok (.istore_n 2, 1) := by decide +kernel
theorem dX9_divisor_15 : decode cX9_divisor 15 = .ok (.iload 4, 2) := by decide +kernel
theorem dX9_divisor_17 : decode cX9_divisor 17 = .ok (.istore_n 3, 1) := by decide +kernel
theorem dX9_divisor_18 : decode cX9_divisor 18 = .ok (.goto (-14), 3) := by decide +kernel
theorem dX9_divisor_21 : decode cX9_divisor 21 = .ok (.iload_n 2, 1) := by decide +kernel
theorem dX9_divisor_22 : decode cX9_divisor 22 = .ok (.ireturn, 1) := by decide +kernel
set_option maxRecDepth 20000 in
theorem ggX9_liesOn_X9_many : GoodIn wsX9_liesOn wsX9_many := goodIn_r _ [5, 6, 23, 24, 25, 26, 27, 28, 29, 30, 31, 32] (by decide +kernel) (by decide +kernel)
set_option maxRecDepth 20000 in
theorem gX9_liesOn_X9_many : GoodIn wsX9_liesOn (wsV RX9 46 RX9 yX9_many wsX9_many) := goodIn_app (goodIn_of _ (by decide +kernel)) ggX9_liesOn_X9_many
set_option maxRecDepth 20000 in
theorem ggX9_liesOn_X9_markAt : GoodIn wsX9_liesOn wsX9_markAt := goodIn_r _ [10, 6, 23, 24, 25, 26, 27, 28, 29, 30, 31, 32] (by decide +kernel) (by decide +kernel)
set_option maxRecDepth 20000 in
theorem gX9_liesOn_X9_markAt : GoodIn wsX9_liesOn (wsV RX9 50 RX9 yX9_markAt wsX9_markAt) := goodIn_app (goodIn_of _ (by decide +kernel)) ggX9_liesOn_X9_markAt
set_option maxRecDepth 20000 in
theorem ggX9_liesOn_X9_around : GoodIn wsX9_liesOn wsX9_around := goodIn_r _ [14, 15, 16, 17, 4, 18, 6, 23, 24, 25, 26, 27, 28, 29, 30, 31, 32] (by decide +kernel) (by decide +kernel)
set_option maxRecDepth 20000 in
theorem gX9_liesOn_X9_around : GoodIn wsX9_liesOn (wsV RX9 102 RX9 yX9_around wsX9_around) := goodIn_app (goodIn_of _ (by decide +kernel)) ggX9_liesOn_X9_around
set_option maxRecDepth 20000 in
theorem ggX9_liesOn_X9_numberOf : GoodIn wsX9_liesOn wsX9_numberOf := goodIn_r _ [22, 1, 2, 3, 4, 5, 6, 7, 8, 9, 10, 23, 24, 25, 26, 27, 28, 29, 30, 31, 32] (by decide +kernel) (by decide +kernel)
set_option maxRecDepth 20000 in
theorem gX9_liesOn_X9_numberOf : GoodIn wsX9_liesOn (wsV RX9 64 RX9 yX9_numberOf wsX9_numberOf) := goodIn_app (goodIn_of _ (by decide +kernel)) ggX9_liesOn_X9_numberOf
theorem dX9_liesOn_0 : decode cX9_liesOn 0 = .ok (.iconst 1, 1) := by decide +kernel
theorem dX9_liesOn_1 : decode cX9_liesOn 1 = .ok (.istore 4, 2) := by decide +kernel
theorem dX9_liesOn_3 : decode cX9_liesOn 3 = .ok (.iconst 0, 1) := by decide +kernel
theorem dX9_liesOn_4 : decode cX9_liesOn 4 = .ok (.istore 5, 2) := by decide +kernel
theorem dX9_liesOn_6 : decode cX9_liesOn 6 = .ok (.iload 5, 2) := by decide +kernel
theorem dX9_liesOn_8 : decode cX9_liesOn 8 = .ok (.aload_n 0, 1) := by decide +kernel
theorem dX9_liesOn_9 : decode cX9_liesOn 9 = .ok (.iload_n 1, 1) := by decide +kernel
theorem dX9_liesOn_10 : decode cX9_liesOn 10 = .ok (.invokevirtual 46, 3) := by decide +kernel
theorem dX9_liesOn_13 : decode cX9_liesOn 13 = .ok (.if_icmp .ge 45, 3) := by decide +kernel
theorem dX9_liesOn_16 : decode cX9_liesOn 16 = .ok (.iload 4, 2) := by decide +kernel
theorem dX9_liesOn_18 : decode cX9_liesOn 18 = .ok (.ifCond .eq 40, 3) := by decide +kernel
theorem dX9_liesOn_21 : decode cX9_liesOn 21 = .ok (.aload_n 0, 1) := by decide +kernel
theorem dX9_liesOn_22 : decode cX9_liesOn 22 = .ok (.iload_n 1, 1) := by decide +kernel
theorem dX9_liesOn_23 : decode cX9_liesOn 23 = .ok (.aload_n 0, 1) := by decide +kernel
theorem dX9_liesOn_24 : decode cX9_liesOn 24 = .ok (.iload_n 2, 1) := by decide +kernel
theorem dX9_liesOn_25 : decode cX9_liesOn 25 = .ok (.aload_n 0, 1) := by decide +kernel
theorem dX9_liesOn_26 : decode cX9_liesOn 26 = .ok (.iload_n 1, 1) := by decide +kernel
theorem dX9_liesOn_27 : decode cX9_liesOn 27 = .ok (.iload 5, 2) := by decide +kernel
theorem dX9_liesOn_29 : decode cX9_liesOn 29 = .ok (.invokevirtual 50, 3) := by decide +kernel
theorem dX9_liesOn_32 : decode cX9_liesOn 32 = .ok (.imul, 1) := by decide +kernel
theorem dX9_liesOn_33 : decode cX9_liesOn 33 = .ok (.iload_n 3, 1) := by decide +kernel
theorem dX9_liesOn_34 : decode cX9_liesOn 34 = .ok (.isub, 1) := by decide +kernel
theorem dX9_liesOn_35 : decode cX9_liesOn 35 = .ok (.invokevirtual 102, 3) := by decide +kernel
theorem dX9_liesOn_38 : decode cX9_liesOn 38 = .ok (.invokevirtual 64, 3) := by decide +kernel
theorem dX9_liesOn_41 : decode cX9_liesOn 41 = .ok (.iconst (-1), 1) := by decide +kernel
theorem dX9_liesOn_42 : decode cX9_liesOn 42 = .ok (.if_icmp .eq 7, 3) := by decide +kernel
theorem dX9_liesOn_45 : decode cX9_liesOn 45 = .ok (.iconst 1, 1) := by decide +kernel
theorem dX9_liesOn_46 : decode cX9_liesOn 46 = .ok (.goto 4, 3) := by decide +kernel
theorem dX9_liesOn_49 : decode cX9_liesOn 49 = .ok (.iconst 0, 1) := by decide +kernel
theorem dX9_liesOn_50 : decode cX9_liesOn 50 = .ok (.istore 4, 2) := by decide +kernel
theorem dX9_liesOn_52 : decode cX9_liesOn 52 = .ok (.iinc 5 1, 3) := by decide +kernel
theorem dX9_liesOn_55 : decode cX9_liesOn 55 = .ok (.goto (-49), 3) := by decide +kernel
theorem dX9_liesOn_58 : decode cX9_liesOn 58 = .ok (.iload 4, 2) := by decide +kernel
theorem dX9_liesOn_60 : decode cX9_liesOn 60 = .ok (.ireturn, 1) := by decide +kernel
set_option maxRecDepth 20000 in
theorem ggX9_multiplies_X9_many : GoodIn wsX9_multiplies wsX9_many := goodIn_r _ [5, 6, 27, 28, 29, 30, 31, 32, 33, 34, 35, 36] (by decide +kernel) (by decide +kernel)
set_option maxRecDepth 20000 in
theorem gX9_multiplies_X9_many : GoodIn wsX9_multiplies (wsV RX9 46 RX9 yX9_many wsX9_many) := goodIn_app (goodIn_of _ (by decide +kernel)) ggX9_multiplies_X9_many
set_option maxRecDepth 20000 in
theorem ggX9_multiplies_X9_markAt : GoodIn wsX9_multiplies wsX9_markAt := goodIn_r _ [10, 6, 27, 28, 29, 30, 31, 32, 33, 34, 35, 36] (by decide +kernel) (by decide +kernel)
set_option maxRecDepth 20000 in
theorem gX9_multiplies_X9_markAt : GoodIn wsX9_multiplies (wsV RX9 50 RX9 yX9_markAt wsX9_markAt) := goodIn_app (goodIn_of _ (by decide +kernel)) ggX9_multiplies_X9_markAt
set_option maxRecDepth 20000 in
theorem ggX9_multiplies_X9_around : GoodIn wsX9_multiplies wsX9_around := goodIn_r _ [14, 15, 16, 17, 4, 18, 6, 27, 28, 29, 30, 31, 32, 33, 34, 35, 36] (by decide +kernel) (by decide +kernel)
set_option maxRecDepth 20000 in
theorem gX9_multiplies_X9_around : GoodIn wsX9_multiplies (wsV RX9 102 RX9 yX9_around wsX9_around) := goodIn_app (goodIn_of _ (by decide +kernel)) ggX9_multiplies_X9_around
set_option maxRecDepth 20000 in
theorem ggX9_multiplies_X9_liesOn : GoodIn wsX9_multiplies wsX9_liesOn := goodIn_r _ [22, 1, 2, 3, 4, 5, 6, 7, 8, 9, 10, 11, 12, 13, 14, 15, 16, 17, 18, 23, 24, 25, 26, 27, 28, 29, 30, 31, 32, 33, 34, 35, 36] (by decide +kernel) (by decide +kernel)
set_option maxRecDepth 20000 in
theorem gX9_multiplies_X9_liesOn : GoodIn wsX9_multiplies (wsV RX9 117 RX9 yX9_liesOn wsX9_liesOn) := goodIn_app (goodIn_of _ (by decide +kernel)) ggX9_multiplies_X9_liesOn
theorem dX9_multiplies_0 : decode cX9_multiplies 0 = .ok (.aload_n 0, 1) := by decide +kernel
theorem dX9_multiplies_1 : decode cX9_multiplies 1 = .ok (.iload_n 1, 1) := by decide +kernel
theorem dX9_multiplies_2 : decode cX9_multiplies 2 = .ok (.invokevirtual 46, 3) := by decide +kernel
theorem dX9_multiplies_5 : decode cX9_multiplies 5 = .ok (.ifCond .ne 7, 3) := by decide +kernel
theorem dX9_multiplies_8 : decode cX9_multiplies 8 = .ok (.iconst 1, 1) := by decide +kernel
theorem dX9_multiplies_9 : decode cX9_multiplies 9 = .ok (.goto 4, 3) := by decide +kernel
theorem dX9_multiplies_12 : decode cX9_multiplies 12 = .ok (.iconst 0, 1) := by decide +kernel
theorem dX9_multiplies_13 : decode cX9_multiplies 13 = .ok (.istore_n 3, 1) := by decide +kernel
theorem dX9_multiplies_14 : decode cX9_multiplies 14 = .ok (.iconst 0, 1) := by decide +kernel
theorem dX9_multiplies_15 : decode cX9_multiplies 15 = .ok (.istore 4, 2) := by decide +kernel
theorem dX9_multiplies_17 : decode cX9_multiplies 17 = .ok (.iload 4, 2) := by decide +kernel
theorem dX9_multiplies_19 : decode cX9_multiplies 19 = .ok (.aload_n 0, 1) := by decide +kernel
theorem dX9_multiplies_20 : decode cX9_multiplies 20 = .ok (.iload_n 1, 1) := by decide +kernel
theorem dX9_multiplies_21 : decode cX9_multiplies 21 = .ok (.invokevirtual 46, 3) := by decide +kernel
theorem dX9_multiplies_24 : decode cX9_multiplies 24 = .ok (.if_icmp .ge 40, 3) := by decide +kernel
theorem dX9_multiplies_27 : decode cX9_multiplies 27 = .ok (.iload_n 3, 1) := by decide +kernel
theorem dX9_multiplies_28 : decode cX9_multiplies 28 = .ok (.ifCond .ne 36, 3) := by decide +kernel
theorem dX9_multiplies_31 : decode cX9_multiplies 31 = .ok (.aload_n 0, 1) := by decide +kernel
theorem dX9_multiplies_32 : decode cX9_multiplies 32 = .ok (.iload_n 1, 1) := by decide +kernel
theorem dX9_multiplies_33 : decode cX9_multiplies 33 = .ok (.iload_n 2, 1) := by decide +kernel
theorem dX9_multiplies_34 : decode cX9_multiplies 34 = .ok (.aload_n 0, 1) := by decide +kernel
theorem dX9_multiplies_35 : decode cX9_multiplies 35 = .ok (.iload_n 2, 1) := by decide +kernel
theorem dX9_multiplies_36 : decode cX9_multiplies 36 = .ok (.aload_n 0, 1) := by decide +kernel
theorem dX9_multiplies_37 : decode cX9_multiplies 37 = .ok (.iload_n 1, 1) := by decide +kernel
theorem dX9_multiplies_38 : decode cX9_multiplies 38 = .ok (.iconst 0, 1) := by decide +kernel
theorem dX9_multiplies_39 : decode cX9_multiplies 39 = .ok (.invokevirtual 50, 3) := by decide +kernel
theorem dX9_multiplies_42 : decode cX9_multiplies 42 = .ok (.imul, 1) := by decide +kernel
theorem dX9_multiplies_43 : decode cX9_multiplies 43 = .ok (.aload_n 0, 1) := by decide +kernel
theorem dX9_multiplies_44 : decode cX9_multiplies 44 = .ok (.iload_n 1, 1) := by decide +kernel
theorem dX9_multiplies_45 : decode cX9_multiplies 45 = .ok (.iload 4, 2) := by decide +kernel
theorem dX9_multiplies_47 : decode cX9_multiplies 47 = .ok (.invokevirtual 50, 3) := by decide +kernel
theorem dX9_multiplies_50 : decode cX9_multiplies 50 = .ok (.isub, 1) := by decide +kernel
theorem dX9_multiplies_51 : decode cX9_multiplies 51 = .ok (.invokevirtual 102, 3) := by decide +kernel
theorem dX9_multiplies_54 : decode cX9_multiplies 54 = .ok (.invokevirtual 117, 3) := by decide +kernel
theorem dX9_multiplies_57 : decode cX9_multiplies 57 = .ok (.istore_n 3, 1) := by decide +kernel
theorem dX9_multiplies_58 : decode cX9_multiplies 58 = .ok (.iinc 4 1, 3) := by decide +kernel
theorem dX9_multiplies_61 : decode cX9_multiplies 61 = .ok (.goto (-44), 3) := by decide +kernel
theorem dX9_multiplies_64 : decode cX9_multiplies 64 = .ok (.iload_n 3, 1) := by decide +kernel
theorem dX9_multiplies_65 : decode cX9_multiplies 65 = .ok (.ireturn, 1) := by decide +kernel
set_option maxRecDepth 20000 in
theorem ggX9_multipliersOf_X9_modulus : GoodIn wsX9_multipliersOf wsX9_modulus := goodIn_r _ [5, 6, 34, 35, 36, 37, 38, 39, 40, 41, 42, 43] (by decide +kernel) (by decide +kernel)
set_option maxRecDepth 20000 in
theorem gX9_multipliersOf_X9_modulus : GoodIn wsX9_multipliersOf (wsV RX9 98 RX9 yX9_modulus wsX9_modulus) := goodIn_app (goodIn_of _ (by decide +kernel)) ggX9_multipliersOf_X9_modulus
set_option maxRecDepth 20000 in
theorem ggX9_multipliersOf_X9_divisor : GoodIn wsX9_multipliersOf wsX9_divisor := goodIn_r _ [9] (by decide +kernel) (by decide +kernel)
set_option maxRecDepth 20000 in
theorem gX9_multipliersOf_X9_divisor : GoodIn wsX9_multipliersOf (va_wsS RX9 120 yX9_divisor wsX9_divisor) := goodIn_app (goodIn_of _ (by decide +kernel)) ggX9_multipliersOf_X9_divisor
set_option maxRecDepth 20000 in
theorem ggX9_multipliersOf_X9_multiplies : GoodIn wsX9_multipliersOf wsX9_multiplies := goodIn_r _ [13, 14, 15, 16, 4, 17, 6, 18, 19, 20, 21, 22, 23, 24, 25, 1, 2, 3, 5, 26, 27, 28, 29, 30, 31, 32, 33, 34, 35, 36, 37, 38, 39, 40, 41, 42, 43] (by decide +kernel) (by decide +kernel)
set_option maxRecDepth 20000 in
theorem gX9_multipliersOf_X9_multiplies : GoodIn wsX9_multipliersOf (wsV RX9 123 RX9 yX9_multiplies wsX9_multiplies) := goodIn_app (goodIn_of _ (by decide +kernel)) ggX9_multipliersOf_X9_multiplies
theorem dX9_multipliersOf_0 : decode cX9_multipliersOf 0 = .ok (.iconst 0, 1) := by decide +kernel
theorem dX9_multipliersOf_1 : decode cX9_multipliersOf 1 = .ok (.istore_n 2, 1) := by decide +kernel
theorem dX9_multipliersOf_2 : decode cX9_multipliersOf 2 = .ok (.iconst 1, 1) := by decide +kernel
theorem dX9_multipliersOf_3 : decode cX9_multipliersOf 3 = .ok (.istore_n 3, 1) := by decide +kernel
theorem dX9_multipliersOf_4 : decode cX9_multipliersOf 4 = .ok (.iload_n 3, 1) := by decide +kernel
theorem dX9_multipliersOf_5 : decode cX9_multipliersOf 5 = .ok (.aload_n 0, 1) := by decide +kernel
theorem dX9_multipliersOf_6 : decode cX9_multipliersOf 6 = .ok (.invokevirtual 98, 3) := by decide +kernel
theorem dX9_multipliersOf_9 : decode cX9_multipliersOf 9 = .ok (.if_icmp .ge 38, 3) := by decide +kernel
theorem dX9_multipliersOf_12 : decode cX9_multipliersOf 12 = .ok (.iload_n 2, 1) := by decide +kernel
theorem dX9_multipliersOf_13 : decode cX9_multipliersOf 13 = .ok (.iload_n 3, 1) := by decide +kernel
theorem dX9_multipliersOf_14 : decode cX9_multipliersOf 14 = .ok (.aload_n 0, 1) := by decide +kernel
theorem dX9_multipliersOf_15 : decode cX9_multipliersOf 15 = .ok (.invokevirtual 98, 3) := by decide +kernel
theorem dX9_multipliersOf_18 : decode cX9_multipliersOf 18 = .ok (.invokestatic 120, 3) := by decide +kernel
theorem dX9_multipliersOf_21 : decode cX9_multipliersOf 21 = .ok (.iconst 1, 1) := by decide +kernel
theorem dX9_multipliersOf_22 : decode cX9_multipliersOf 22 = .ok (.if_icmp .ne 16, 3) := by decide +kernel
theorem dX9_multipliersOf_25 : decode cX9_multipliersOf 25 = .ok (.aload_n 0, 1) := by decide +kernel
theorem dX9_multipliersOf_26 : decode cX9_multipliersOf 26 = .ok (.iload_n 1, 1) := by decide +kernel
theorem dX9_multipliersOf_27 : decode cX9_multipliersOf 27 = .ok (.iload_n 3, 1) := by decide +kernel
theorem dX9_multipliersOf_28 : decode cX9_multipliersOf 28 = .ok (.invokevirtual 123, 3) := by decide +kernel
theorem dX9_multipliersOf_31 : decode cX9_multipliersOf 31 = .ok (.ifCond .eq 7, 3) := by decide +kernel
theorem dX9_multipliersOf_34 : decode cX9_multipliersOf 34 = .ok (.iconst 1, 1) := by decide +kernel
theorem dX9_multipliersOf_35 : decode cX9_multipliersOf 35 = .ok (.goto 4, 3) := by decide +kernel
theorem dX9_multipliersOf_38 : decode cX9_multipliersOf 38 = .ok (.iconst 0, 1) := by decide +kernel
theorem dX9_multipliersOf_39 : decode cX9_multipliersOf 39 = .ok (.iadd, 1) := by decide +kernel
theorem dX9_multipliersOf_40 : decode cX9_multipliersOf 40 = .ok (.istore_n 2, 1) := by decide +kernel
theorem dX9_multipliersOf_41 : decode cX9_multipliersOf 41 = .ok (.iinc 3 1, 3) := by decide +kernel
theorem dX9_multipliersOf_44 : decode cX9_multipliersOf 44 = .ok (.goto (-40), 3) := by decide +kernel
theorem dX9_multipliersOf_47 : decode cX9_multipliersOf 47 = .ok (.iload_n 2, 1) := by decide +kernel
theorem dX9_multipliersOf_48 : decode cX9_multipliersOf 48 = .ok (.ireturn, 1) := by decide +kernel
set_option maxRecDepth 20000 in
theorem ggX9_multipliers_X9_bar : GoodIn wsX9_multipliers wsX9_bar := goodIn_r _ [5, 6, 7, 4, 8, 9, 10, 11, 12, 13, 14, 15, 16, 17, 18, 19, 20, 21, 22, 23, 24, 25, 26, 27, 28, 57, 58, 59, 60, 61, 62, 63, 64, 65, 66] (by decide +kernel) (by decide +kernel)
set_option maxRecDepth 20000 in
theorem gX9_multipliers_X9_bar : GoodIn wsX9_multipliers (wsV RX9 111 RX9 yX9_bar wsX9_bar) := goodIn_app (goodIn_of _ (by decide +kernel)) ggX9_multipliers_X9_bar
set_option maxRecDepth 20000 in
theorem ggX9_multipliers_X9_refused : GoodIn wsX9_multipliers wsX9_refused := goodIn_r _ [32, 33, 57, 58, 59, 60, 61, 62, 63, 64, 65, 66] (by decide +kernel) (by decide +kernel)
set_option maxRecDepth 20000 in
theorem gX9_multipliers_X9_refused : GoodIn wsX9_multipliers (wsV RX9 39 RX9 yX9_refused wsX9_refused) := goodIn_app (goodIn_of _ (by decide +kernel)) ggX9_multipliers_X9_refused
set_option maxRecDepth 20000 in
theorem ggX9_multipliers_X9_multipliersOf : GoodIn wsX9_multipliers wsX9_multipliersOf := goodIn_r _ [37, 25, 26, 27, 4, 28, 20, 38, 39, 40, 41, 42, 43, 44, 16, 17, 18, 19, 21, 22, 23, 24, 45, 46, 47, 48, 49, 50, 51, 52, 53, 54, 55, 56, 57, 58, 59, 60, 61, 62, 63, 64, 65, 66] (by decide +kernel) (by decide +kernel)
set_option maxRecDepth 20000 in
theorem gX9_multipliers_X9_multipliersOf : GoodIn wsX9_multipliers (wsV RX9 127 RX9 yX9_multipliersOf wsX9_multipliersOf) := goodIn_app (goodIn_of _ (by decide +kernel)) ggX9_multipliers_X9_multipliersOf
theorem dX9_multipliers_0 : decode cX9_multipliers 0 = .ok (.aload_n 0, 1) := by decide +kernel
theorem dX9_multipliers_1 : decode cX9_multipliers 1 = .ok (.aload_n 0, 1) := by decide +kernel
theorem dX9_multipliers_2 : decode cX9_multipliers 2 = .ok (.iload_n 1, 1) := by decide +kernel
theorem dX9_multipliers_3 : decode cX9_multipliers 3 = .ok (.invokevirtual 111, 3) := by decide +kernel
theorem dX9_multipliers_6 : decode cX9_multipliers 6 = .ok (.invokevirtual 39, 3) := by decide +kernel
theorem dX9_multipliers_9 : decode cX9_multipliers 9 = .ok (.ifCond .eq 7, 3) := by decide +kernel
theorem dX9_multipliers_12 : decode cX9_multipliers 12 = .ok (.iconst 0, 1) := by decide +kernel
theorem dX9_multipliers_13 : decode cX9_multipliers 13 = .ok (.goto 8, 3) := by decide +kernel
theorem dX9_multipliers_16 : decode cX9_multipliers 16 = .ok (.aload_n 0, 1) := by decide +kernel
theorem dX9_multipliers_17 : decode cX9_multipliers 17 = .ok (.iload_n 1, 1) := by decide +kernel
theorem dX9_multipliers_18 : decode cX9_multipliers 18 = .ok (.invokevirtual 127, 3) := by decide +kernel
theorem dX9_multipliers_21 : decode cX9_multipliers 21 = .ok (.ireturn, 1) := by decide +kernel
theorem dX9_isAhead_0 : decode cX9_isAhead 0 = .ok (.iconst 0, 1) := by decide +kernel
theorem dX9_isAhead_1 : decode cX9_isAhead 1 = .ok (.istore_n 1, 1) := by decide +kernel
theorem dX9_isAhead_2 : decode cX9_isAhead 2 = .ok (.iload_n 1, 1) := by decide +kernel
theorem dX9_isAhead_3 : decode cX9_isAhead 3 = .ok (.aload_n 0, 1) := by decide +kernel
theorem dX9_isAhead_4 : decode cX9_isAhead 4 = .ok (.getfield 43, 3) := by decide +kernel
theorem dX9_isAhead_7 : decode cX9_isAhead 7 = .ok (.if_icmp .ge 24, 3) := by decide +kernel
theorem dX9_isAhead_10 : decode cX9_isAhead 10 = .ok (.aload_n 0, 1) := by decide +kernel
theorem dX9_isAhead_11 : decode cX9_isAhead 11 = .ok (.getfield 16, 3) := by decide +kernel
theorem dX9_isAhead_14 : decode cX9_isAhead 14 = .ok (.iload_n 1, 1) := by decide +kernel
theorem dX9_isAhead_15 : decode cX9_isAhead 15 = .ok (.iaload, 1) := by decide +kernel
theorem dX9_isAhead_16 : decode cX9_isAhead 16 = .ok (.aload_n 0, 1) := by decide +kernel
theorem dX9_isAhead_17 : decode cX9_isAhead 17 = .ok (.getfield 22, 3) := by decide +kernel
theorem dX9_isAhead_20 : decode cX9_isAhead 20 = .ok (.iload_n 1, 1) := by decide +kernel
theorem dX9_isAhead_21 : decode cX9_isAhead 21 = .ok (.iaload, 1) := by decide +kernel
theorem dX9_isAhead_22 : decode cX9_isAhead 22 = .ok (.if_icmp .ne 9, 3) := by decide +kernel
theorem dX9_isAhead_25 : decode cX9_isAhead 25 = .ok (.iinc 1 1, 3) := by decide +kernel
theorem dX9_isAhead_28 : decode cX9_isAhead 28 = .ok (.goto (-26), 3) := by decide +kernel
theorem dX9_isAhead_31 : decode cX9_isAhead 31 = .ok (.iload_n 1, 1) := by decide +kernel
theorem dX9_isAhead_32 : decode cX9_isAhead 32 = .ok (.aload_n 0, 1) := by decide +kernel
theorem dX9_isAhead_33 : decode cX9_isAhead 33 = .ok (.getfield 43, 3) := by decide +kernel
theorem dX9_isAhead_36 : decode cX9_isAhead 36 = .ok (.if_icmp .ge 22, 3) := by decide +kernel
theorem dX9_isAhead_39 : decode cX9_isAhead 39 = .ok (.aload_n 0, 1) := by decide +kernel
theorem dX9_isAhead_40 : decode cX9_isAhead 40 = .ok (.getfield 16, 3) := by decide +kernel
theorem dX9_isAhead_43 : decode cX9_isAhead 43 = .ok (.iload_n 1, 1) := by decide +kernel
theorem dX9_isAhead_44 : decode cX9_isAhead 44 = .ok (.iaload, 1) := by decide +kernel
theorem dX9_isAhead_45 : decode cX9_isAhead 45 = .ok (.aload_n 0, 1) := by decide +kernel
theorem dX9_isAhead_46 : decode cX9_isAhead 46 = .ok (.getfield 22, 3) := by decide +kernel
theorem dX9_isAhead_49 : decode cX9_isAhead 49 = .ok (.iload_n 1, 1) := by decide +kernel
theorem dX9_isAhead_50 : decode cX9_isAhead 50 = .ok (.iaload, 1) := by decide +kernel
theorem dX9_isAhead_51 : decode cX9_isAhead 51 = .ok (.if_icmp .ge 7, 3) := by decide +kernel
theorem dX9_isAhead_54 : decode cX9_isAhead 54 = .ok (.iconst 1, 1) := by decide +kernel
theorem dX9_isAhead_55 : decode cX9_isAhead 55 = .ok (.goto 4, 3) := by decide +kernel
theorem dX9_isAhead_58 : decode cX9_isAhead 58 = .ok (.iconst 0, 1) := by decide +kernel
theorem dX9_isAhead_59 : decode cX9_isAhead 59 = .ok (.ireturn, 1) := by decide +kernel
set_option maxRecDepth 20000 in
theorem ggX9_canonical_X9_isSet : GoodIn wsX9_canonical wsX9_isSet := goodIn_r _ [5, 6, 7, 4, 8] (by decide +kernel) (by decide +kernel)
set_option maxRecDepth 20000 in
theorem gX9_canonical_X9_isSet : GoodIn wsX9_canonical (va_wsS RX9 61 yX9_isSet wsX9_isSet) := goodIn_app (goodIn_of _ (by decide +kernel)) ggX9_canonical_X9_isSet
set_option maxRecDepth 20000 in
theorem ggX9_canonical_X9_many : GoodIn wsX9_canonical wsX9_many := goodIn_r _ [12, 13, 66, 67, 68, 69, 70, 71, 72, 73, 74, 75] (by decide +kernel) (by decide +kernel)
set_option maxRecDepth 20000 in
theorem gX9_canonical_X9_many : GoodIn wsX9_canonical (wsV RX9 46 RX9 yX9_many wsX9_many) := goodIn_app (goodIn_of _ (by decide +kernel)) ggX9_canonical_X9_many
set_option maxRecDepth 20000 in
theorem ggX9_canonical_X9_isLow : GoodIn wsX9_canonical wsX9_isLow := goodIn_r _ [17, 9, 10, 11, 4, 12, 13, 18, 19, 20, 21, 22, 23, 24, 25, 66, 67, 68, 69, 70, 71, 72, 73, 74, 75] (by decide +kernel) (by decide +kernel)
set_option maxRecDepth 20000 in
theorem gX9_canonical_X9_isLow : GoodIn wsX9_canonical (wsV RX9 105 RX9 yX9_isLow wsX9_isLow) := goodIn_app (goodIn_of _ (by decide +kernel)) ggX9_canonical_X9_isLow
set_option maxRecDepth 20000 in
theorem ggX9_canonical_X9_refused : GoodIn wsX9_canonical wsX9_refused := goodIn_r _ [29, 30, 66, 67, 68, 69, 70, 71, 72, 73, 74, 75] (by decide +kernel) (by decide +kernel)
set_option maxRecDepth 20000 in
theorem gX9_canonical_X9_refused : GoodIn wsX9_canonical (wsV RX9 39 RX9 yX9_refused wsX9_refused) := goodIn_app (goodIn_of _ (by decide +kernel)) ggX9_canonical_X9_refused
set_option maxRecDepth 20000 in
theorem ggX9_canonical_X9_saves : GoodIn wsX9_canonical wsX9_saves := goodIn_r _ [34, 35, 36, 13, 66, 67, 68, 69, 70, 71, 72, 73, 74, 75] (by decide +kernel) (by decide +kernel)
set_option maxRecDepth 20000 in
theorem gX9_canonical_X9_saves : GoodIn wsX9_canonical (wsV RX9 67 RX9 yX9_saves wsX9_saves) := goodIn_app (goodIn_of _ (by decide +kernel)) ggX9_canonical_X9_saves
set_option maxRecDepth 20000 in
theorem ggX9_canonical_X9_modulus : GoodIn wsX9_canonical wsX9_modulus := goodIn_r _ [25, 13, 66, 67, 68, 69, 70, 71, 72, 73, 74, 75] (by decide +kernel) (by decide +kernel)
set_option maxRecDepth 20000 in
theorem gX9_canonical_X9_modulus : GoodIn wsX9_canonical (wsV RX9 98 RX9 yX9_modulus wsX9_modulus) := goodIn_app (goodIn_of _ (by decide +kernel)) ggX9_canonical_X9_modulus
set_option maxRecDepth 20000 in
theorem ggX9_canonical_X9_divisor : GoodIn wsX9_canonical wsX9_divisor := goodIn_r _ [39] (by decide +kernel) (by decide +kernel)
set_option maxRecDepth 20000 in
theorem gX9_canonical_X9_divisor : GoodIn wsX9_canonical (va_wsS RX9 120 yX9_divisor wsX9_divisor) := goodIn_app (goodIn_of _ (by decide +kernel)) ggX9_canonical_X9_divisor
set_option maxRecDepth 20000 in
theorem ggX9_canonical_X9_begins : GoodIn wsX9_canonical wsX9_begins := goodIn_r _ [43, 44, 66, 67, 68, 69, 70, 71, 72, 73, 74, 75] (by decide +kernel) (by decide +kernel)
set_option maxRecDepth 20000 in
theorem gX9_canonical_X9_begins : GoodIn wsX9_canonical (wsV RX9 54 RX9 yX9_begins wsX9_begins) := goodIn_app (goodIn_of _ (by decide +kernel)) ggX9_canonical_X9_begins
set_option maxRecDepth 20000 in
theorem ggX9_canonical_X9_markAt : GoodIn wsX9_canonical wsX9_markAt := goodIn_r _ [21, 13, 66, 67, 68, 69, 70, 71, 72, 73, 74, 75] (by decide +kernel) (by decide +kernel)
set_option maxRecDepth 20000 in
theorem gX9_canonical_X9_markAt : GoodIn wsX9_canonical (wsV RX9 50 RX9 yX9_markAt wsX9_markAt) := goodIn_app (goodIn_of _ (by decide +kernel)) ggX9_canonical_X9_markAt
set_option maxRecDepth 20000 in
theorem ggX9_canonical_X9_around : GoodIn wsX9_canonical wsX9_around := goodIn_r _ [48, 22, 23, 24, 4, 25, 13, 66, 67, 68, 69, 70, 71, 72, 73, 74, 75] (by decide +kernel) (by decide +kernel)
set_option maxRecDepth 20000 in
theorem gX9_canonical_X9_around : GoodIn wsX9_canonical (wsV RX9 102 RX9 yX9_around wsX9_around) := goodIn_app (goodIn_of _ (by decide +kernel)) ggX9_canonical_X9_around
set_option maxRecDepth 20000 in
theorem ggX9_canonical_X9_comes : GoodIn wsX9_canonical wsX9_comes := goodIn_r _ [52, 44, 53, 66, 67, 68, 69, 70, 71, 72, 73, 74, 75] (by decide +kernel) (by decide +kernel)
set_option maxRecDepth 20000 in
theorem gX9_canonical_X9_comes : GoodIn wsX9_canonical (wsV RX9 57 RX9 yX9_comes wsX9_comes) := goodIn_app (goodIn_of _ (by decide +kernel)) ggX9_canonical_X9_comes
set_option maxRecDepth 20000 in
theorem ggX9_canonical_X9_isAhead : GoodIn wsX9_canonical wsX9_isAhead := goodIn_r _ [57, 44, 53, 1, 66, 67, 68, 69, 70, 71, 72, 73, 74, 75] (by decide +kernel) (by decide +kernel)
set_option maxRecDepth 20000 in
theorem gX9_canonical_X9_isAhead : GoodIn wsX9_canonical (wsV RX9 130 RX9 yX9_isAhead wsX9_isAhead) := goodIn_app (goodIn_of _ (by decide +kernel)) ggX9_canonical_X9_isAhead
set_option maxRecDepth 20000 in
theorem ggX9_canonical_X9_keepsFirst : GoodIn wsX9_canonical wsX9_keepsFirst := goodIn_r _ [61, 44, 1, 53, 66, 67, 68, 69, 70, 71, 72, 73, 74, 75] (by decide +kernel) (by decide +kernel)
set_option maxRecDepth 20000 in
theorem gX9_canonical_X9_keepsFirst : GoodIn wsX9_canonical (wsV RX9 134 RX9 yX9_keepsFirst wsX9_keepsFirst) := goodIn_app (goodIn_of _ (by decide +kernel)) ggX9_canonical_X9_keepsFirst
set_option maxRecDepth 20000 in
theorem ggX9_canonical_X9_becomes : GoodIn wsX9_canonical wsX9_becomes := goodIn_r _ [65, 13, 44, 53, 66, 67, 68, 69, 70, 71, 72, 73, 74, 75] (by decide +kernel) (by decide +kernel)
set_option maxRecDepth 20000 in
theorem gX9_canonical_X9_becomes : GoodIn wsX9_canonical (wsV RX9 74 RX9 yX9_becomes wsX9_becomes) := goodIn_app (goodIn_of _ (by decide +kernel)) ggX9_canonical_X9_becomes
theorem dX9_canonical_0 : decode cX9_canonical 0 = .ok (.aload_n 0, 1) := by decide +kernel
theorem dX9_canonical_1 : decode cX9_canonical 1 = .ok (.iload_n 1, 1) := by decide +kernel
theorem dX9_canonical_2 : decode cX9_canonical 2 = .ok (.invokestatic 61, 3) := by decide +kernel
theorem dX9_canonical_5 : decode cX9_canonical 5 = .ok (.ifCond .eq 10, 3) := by decide +kernel
theorem dX9_canonical_8 : decode cX9_canonical 8 = .ok (.iload_n 2, 1) := by decide +kernel
theorem dX9_canonical_9 : decode cX9_canonical 9 = .ok (.invokestatic 61, 3) := by decide +kernel
theorem dX9_canonical_12 : decode cX9_canonical 12 = .ok (.ifCond .ne 7, 3) := by decide +kernel
theorem dX9_canonical_15 : decode cX9_canonical 15 = .ok (.iconst 1, 1) := by decide +kernel
theorem dX9_canonical_16 : decode cX9_canonical 16 = .ok (.goto 24, 3) := by decide +kernel
theorem dX9_canonical_19 : decode cX9_canonical 19 = .ok (.aload_n 0, 1) := by decide +kernel
theorem dX9_canonical_20 : decode cX9_canonical 20 = .ok (.iload_n 1, 1) := by decide +kernel
theorem dX9_canonical_21 : decode cX9_canonical 21 = .ok (.invokevirtual 46, 3) := by decide +kernel
theorem dX9_canonical_24 : decode cX9_canonical 24 = .ok (.ifCond .eq 11, 3) := by decide +kernel
theorem dX9_canonical_27 : decode cX9_canonical 27 = .ok (.aload_n 0, 1) := by decide +kernel
theorem dX9_canonical_28 : decode cX9_canonical 28 = .ok (.iload_n 1, 1) := by decide +kernel
theorem dX9_canonical_29 : decode cX9_canonical 29 = .ok (.invokevirtual 105, 3) := by decide +kernel
theorem dX9_canonical_32 : decode cX9_canonical 32 = .ok (.ifCond .ne 7, 3) := by decide +kernel
theorem dX9_canonical_35 : decode cX9_canonical 35 = .ok (.iconst 2, 1) := by decide +kernel
theorem dX9_canonical_36 : decode cX9_canonical 36 = .ok (.goto 4, 3) := by decide +kernel
theorem dX9_canonical_39 : decode cX9_canonical 39 = .ok (.iconst 0, 1) := by decide +kernel
theorem dX9_canonical_40 : decode cX9_canonical 40 = .ok (.invokevirtual 39, 3) := by decide +kernel
theorem dX9_canonical_43 : decode cX9_canonical 43 = .ok (.ifCond .eq 5, 3) := by decide +kernel
theorem dX9_canonical_46 : decode cX9_canonical 46 = .ok (.iconst 0, 1) := by decide +kernel
theorem dX9_canonical_47 : decode cX9_canonical 47 = .ok (.ireturn, 1) := by decide +kernel
theorem dX9_canonical_48 : decode cX9_canonical 48 = .ok (.aload_n 0, 1) := by decide +kernel
theorem dX9_canonical_49 : decode cX9_canonical 49 = .ok (.invokevirtual 67, 3) := by decide +kernel
theorem dX9_canonical_52 : decode cX9_canonical 52 = .ok (.aload_n 0, 1) := by decide +kernel
theorem dX9_canonical_53 : decode cX9_canonical 53 = .ok (.iload_n 1, 1) := by decide +kernel
theorem dX9_canonical_54 : decode cX9_canonical 54 = .ok (.invokevirtual 46, 3) := by decide +kernel
theorem dX9_canonical_57 : decode cX9_canonical 57 = .ok (.istore_n 3, 1) := by decide +kernel
theorem dX9_canonical_58 : decode cX9_canonical 58 = .ok (.iconst 0, 1) := by decide +kernel
theorem dX9_canonical_59 : decode cX9_canonical 59 = .ok (.istore 4, 2) := by decide +kernel
theorem dX9_canonical_61 : decode cX9_canonical 61 = .ok (.iload 4, 2) := by decide +kernel
theorem dX9_canonical_63 : decode cX9_canonical 63 = .ok (.iload_n 3, 1) := by decide +kernel
theorem dX9_canonical_64 : decode cX9_canonical 64 = .ok (.if_icmp .ge 19, 3) := by decide +kernel
theorem dX9_canonical_67 : decode cX9_canonical 67 = .ok (.aload_n 0, 1) := by decide +kernel
theorem dX9_canonical_68 : decode cX9_canonical 68 = .ok (.getfield 22, 3) := by decide +kernel
theorem dX9_canonical_71 : decode cX9_canonical 71 = .ok (.iload 4, 2) := by decide +kernel
theorem dX9_canonical_73 : decode cX9_canonical 73 = .ok (.sipush 2000, 3) := by decide +kernel
theorem dX9_canonical_76 : decode cX9_canonical 76 = .ok (.iastore, 1) := by decide +kernel
theorem dX9_canonical_77 : decode cX9_canonical 77 = .ok (.iinc 4 1, 3) := by decide +kernel
theorem dX9_canonical_80 : decode cX9_canonical 80 = .ok (.goto (-19), 3) := by decide +kernel
theorem dX9_canonical_83 : decode cX9_canonical 83 = .ok (.iconst 1, 1) := by decide +kernel
theorem dX9_canonical_84 : decode cX9_canonical 84 = .ok (.istore 4, 2) := by decide +kernel
theorem dX9_canonical_86 : decode cX9_canonical 86 = .ok (.iload 4, 2) := by decide +kernel
theorem dX9_canonical_88 : decode cX9_canonical 88 = .ok (.aload_n 0, 1) := by decide +kernel
theorem dX9_canonical_89 : decode cX9_canonical 89 = .ok (.invokevirtual 98, 3) := by decide +kernel
theorem dX9_canonical_92 : decode cX9_canonical 92 = .ok (.if_icmp .ge 96, 3) := by decide +kernel
theorem dX9_canonical_95 : decode cX9_canonical 95 = .ok (.iconst 0, 1) := by decide +kernel
theorem dX9_canonical_96 : decode cX9_canonical 96 = .ok (.istore 5, 2) := by decide +kernel
theorem dX9_canonical_98 : decode cX9_canonical 98 = .ok (.iload 5, 2) := by decide +kernel
theorem dX9_canonical_100 : decode cX9_canonical 100 = .ok (.iload_n 3, 1) := by decide +kernel
theorem dX9_canonical_101 : decode cX9_canonical 101 = .ok (.if_icmp .ge 81, 3) := by decide +kernel
theorem dX9_canonical_104 : decode cX9_canonical 104 = .ok (.iload 4, 2) := by decide +kernel
theorem dX9_canonical_106 : decode cX9_canonical 106 = .ok (.aload_n 0, 1) := by decide +kernel
theorem dX9_canonical_107 : decode cX9_canonical 107 = .ok (.invokevirtual 98, 3) := by decide +kernel
theorem dX9_canonical_110 : decode cX9_canonical 110 = .ok (.invokestatic 120, 3) := by decide +kernel
theorem dX9_canonical_113 : decode cX9_canonical 113 = .ok (.iconst 1, 1) := by decide +kernel
theorem dX9_canonical_114 : decode cX9_canonical 114 = .ok (.if_icmp .ne 68, 3) := by decide +kernel
theorem dX9_canonical_117 : decode cX9_canonical 117 = .ok (.aload_n 0, 1) := by decide +kernel
theorem dX9_canonical_118 : decode cX9_canonical 118 = .ok (.invokevirtual 54, 3) := by decide +kernel
theorem dX9_canonical_121 : decode cX9_canonical 121 = .ok (.iconst 0, 1) := by decide +kernel
theorem dX9_canonical_122 : decode cX9_canonical 122 = .ok (.istore 6, 2) := by decide +kernel
theorem dX9_canonical_124 : decode cX9_canonical 124 = .ok (.iload 6, 2) := by decide +kernel
theorem dX9_canonical_126 : decode cX9_canonical 126 = .ok (.iload_n 3, 1) := by decide +kernel
theorem dX9_canonical_127 : decode cX9_canonical 127 = .ok (.if_icmp .ge 38, 3) := by decide +kernel
theorem dX9_canonical_130 : decode cX9_canonical 130 = .ok (.aload_n 0, 1) := by decide +kernel
theorem dX9_canonical_131 : decode cX9_canonical 131 = .ok (.aload_n 0, 1) := by decide +kernel
theorem dX9_canonical_132 : decode cX9_canonical 132 = .ok (.iload 4, 2) := by decide +kernel
theorem dX9_canonical_134 : decode cX9_canonical 134 = .ok (.aload_n 0, 1) := by decide +kernel
theorem dX9_canonical_135 : decode cX9_canonical 135 = .ok (.iload_n 1, 1) := by decide +kernel
theorem dX9_canonical_136 : decode cX9_canonical 136 = .ok (.iload 6, 2) := by decide +kernel
theorem dX9_canonical_138 : decode cX9_canonical 138 = .ok (.invokevirtual 50, 3) := by decide +kernel
theorem dX9_canonical_141 : decode cX9_canonical 141 = .ok (.imul, 1) := by decide +kernel
theorem dX9_canonical_142 : decode cX9_canonical 142 = .ok (.iload 4, 2) := by decide +kernel
theorem dX9_canonical_144 : decode cX9_canonical 144 = .ok (.aload_n 0, 1) := by decide +kernel
theorem dX9_canonical_145 : decode cX9_canonical 145 = .ok (.iload_n 1, 1) := by decide +kernel
theorem dX9_canonical_146 : decode cX9_canonical 146 = .ok (.iload 5, 2) := by decide +kernel
theorem dX9_canonical_148 : decode cX9_canonical 148 = .ok (.invokevirtual 50, 3) := by decide +kernel
theorem dX9_canonical_151 : decode cX9_canonical 151 = .ok (.imul, 1) := by decide +kernel
theorem dX9_canonical_152 : decode cX9_canonical 152 = .ok (.isub, 1) := by decide +kernel
theorem dX9_canonical_153 : decode cX9_canonical 153 = .ok (.invokevirtual 102, 3) := by decide +kernel
theorem dX9_canonical_156 : decode cX9_canonical 156 = .ok (.invokevirtual 57, 3) := by decide +kernel
theorem dX9_canonical_159 : decode cX9_canonical 159 = .ok (.iinc 6 1, 3) := by decide +kernel
theorem dX9_canonical_162 : decode cX9_canonical 162 = .ok (.goto (-38), 3) := by decide +kernel
theorem dX9_canonical_165 : decode cX9_canonical 165 = .ok (.aload_n 0, 1) := by decide +kernel
theorem dX9_canonical_166 : decode cX9_canonical 166 = .ok (.invokevirtual 130, 3) := by decide +kernel
theorem dX9_canonical_169 : decode cX9_canonical 169 = .ok (.ifCond .eq 7, 3) := by decide +kernel
theorem dX9_canonical_172 : decode cX9_canonical 172 = .ok (.aload_n 0, 1) := by decide +kernel
theorem dX9_canonical_173 : decode cX9_canonical 173 = .ok (.invokevirtual 134, 3) := by decide +kernel
theorem dX9_canonical_176 : decode cX9_canonical 176 = .ok (.iinc 5 1, 3) := by decide +kernel
theorem dX9_canonical_179 : decode cX9_canonical 179 = .ok (.goto (-81), 3) := by decide +kernel
theorem dX9_canonical_182 : decode cX9_canonical 182 = .ok (.iinc 4 1, 3) := by decide +kernel
theorem dX9_canonical_185 : decode cX9_canonical 185 = .ok (.goto (-99), 3) := by decide +kernel
theorem dX9_canonical_188 : decode cX9_canonical 188 = .ok (.aload_n 0, 1) := by decide +kernel
theorem dX9_canonical_189 : decode cX9_canonical 189 = .ok (.invokevirtual 54, 3) := by decide +kernel
theorem dX9_canonical_192 : decode cX9_canonical 192 = .ok (.iconst 0, 1) := by decide +kernel
theorem dX9_canonical_193 : decode cX9_canonical 193 = .ok (.istore 4, 2) := by decide +kernel
theorem dX9_canonical_195 : decode cX9_canonical 195 = .ok (.iload 4, 2) := by decide +kernel
theorem dX9_canonical_197 : decode cX9_canonical 197 = .ok (.iload_n 3, 1) := by decide +kernel
theorem dX9_canonical_198 : decode cX9_canonical 198 = .ok (.if_icmp .ge 20, 3) := by decide +kernel
theorem dX9_canonical_201 : decode cX9_canonical 201 = .ok (.aload_n 0, 1) := by decide +kernel
theorem dX9_canonical_202 : decode cX9_canonical 202 = .ok (.aload_n 0, 1) := by decide +kernel
theorem dX9_canonical_203 : decode cX9_canonical 203 = .ok (.getfield 22, 3) := by decide +kernel
theorem dX9_canonical_206 : decode cX9_canonical 206 = .ok (.iload 4, 2) := by decide +kernel
theorem dX9_canonical_208 : decode cX9_canonical 208 = .ok (.iaload, 1) := by decide +kernel
theorem dX9_canonical_209 : decode cX9_canonical 209 = .ok (.invokevirtual 57, 3) := by decide +kernel
theorem dX9_canonical_212 : decode cX9_canonical 212 = .ok (.iinc 4 1, 3) := by decide +kernel
theorem dX9_canonical_215 : decode cX9_canonical 215 = .ok (.goto (-20), 3) := by decide +kernel
theorem dX9_canonical_218 : decode cX9_canonical 218 = .ok (.aload_n 0, 1) := by decide +kernel
theorem dX9_canonical_219 : decode cX9_canonical 219 = .ok (.iload_n 2, 1) := by decide +kernel
theorem dX9_canonical_220 : decode cX9_canonical 220 = .ok (.invokevirtual 74, 3) := by decide +kernel
theorem dX9_canonical_223 : decode cX9_canonical 223 = .ok (.ireturn, 1) := by decide +kernel
theorem dX9_keepsFirst_0 : decode cX9_keepsFirst 0 = .ok (.iconst 0, 1) := by decide +kernel
theorem dX9_keepsFirst_1 : decode cX9_keepsFirst 1 = .ok (.istore_n 1, 1) := by decide +kernel
theorem dX9_keepsFirst_2 : decode cX9_keepsFirst 2 = .ok (.iload_n 1, 1) := by decide +kernel
theorem dX9_keepsFirst_3 : decode cX9_keepsFirst 3 = .ok (.aload_n 0, 1) := by decide +kernel
theorem dX9_keepsFirst_4 : decode cX9_keepsFirst 4 = .ok (.getfield 43, 3) := by decide +kernel
theorem dX9_keepsFirst_7 : decode cX9_keepsFirst 7 = .ok (.if_icmp .ge 21, 3) := by decide +kernel
theorem dX9_keepsFirst_10 : decode cX9_keepsFirst 10 = .ok (.aload_n 0, 1) := by decide +kernel
theorem dX9_keepsFirst_11 : decode cX9_keepsFirst 11 = .ok (.getfield 22, 3) := by decide +kernel
theorem dX9_keepsFirst_14 : decode cX9_keepsFirst 14 = .ok (.iload_n 1, 1) := by decide +kernel
theorem dX9_keepsFirst_15 : decode cX9_keepsFirst 15 = .ok (.aload_n 0, 1) := by decide +kernel
theorem dX9_keepsFirst_16 : decode cX9_keepsFirst 16 = .ok (.getfield 16, 3) := by decide +kernel
theorem dX9_keepsFirst_19 : decode cX9_keepsFirst 19 = .ok (.iload_n 1, 1) := by decide +kernel
theorem dX9_keepsFirst_20 : decode cX9_keepsFirst 20 = .ok (.iaload, 1) := by decide +kernel
theorem dX9_keepsFirst_21 : decode cX9_keepsFirst 21 = .ok (.iastore, 1) := by decide +kernel
theorem dX9_keepsFirst_22 : decode cX9_keepsFirst 22 = .ok (.iinc 1 1, 3) := by decide +kernel
theorem dX9_keepsFirst_25 : decode cX9_keepsFirst 25 = .ok (.goto (-23), 3) := by decide +kernel
theorem dX9_keepsFirst_28 : decode cX9_keepsFirst 28 = .ok (.return_, 1) := by decide +kernel
set_option maxRecDepth 20000 in
theorem ggX9_isPrime_X9_within : GoodIn wsX9_isPrime wsX9_within := goodIn_r _ [4] (by decide +kernel) (by decide +kernel)
set_option maxRecDepth 20000 in
theorem gX9_isPrime_X9_within : GoodIn wsX9_isPrime (va_wsS RX9 32 yX9_within wsX9_within) := goodIn_app (goodIn_of _ (by decide +kernel)) ggX9_isPrime_X9_within
theorem dX9_isPrime_0 : decode cX9_isPrime 0 = .ok (.iload_n 0, 1) := by decide +kernel
theorem dX9_isPrime_1 : decode cX9_isPrime 1 = .ok (.iconst 3, 1) := by decide +kernel
theorem dX9_isPrime_2 : decode cX9_isPrime 2 = .ok (.bipush 23, 2) := by decide +kernel
theorem dX9_isPrime_4 : decode cX9_isPrime 4 = .ok (.invokestatic 32, 3) := by decide +kernel
theorem dX9_isPrime_7 : decode cX9_isPrime 7 = .ok (.istore_n 1, 1) := by decide +kernel
theorem dX9_isPrime_8 : decode cX9_isPrime 8 = .ok (.iconst 2, 1) := by decide +kernel
theorem dX9_isPrime_9 : decode cX9_isPrime 9 = .ok (.istore_n 2, 1) := by decide +kernel
theorem dX9_isPrime_10 : decode cX9_isPrime 10 = .ok (.iload_n 2, 1) := by decide +kernel
theorem dX9_isPrime_11 : decode cX9_isPrime 11 = .ok (.iload_n 0, 1) := by decide +kernel
theorem dX9_isPrime_12 : decode cX9_isPrime 12 = .ok (.if_icmp .ge 25, 3) := by decide +kernel
theorem dX9_isPrime_15 : decode cX9_isPrime 15 = .ok (.iload_n 1, 1) := by decide +kernel
theorem dX9_isPrime_16 : decode cX9_isPrime 16 = .ok (.ifCond .eq 21, 3) := by decide +kernel
theorem dX9_isPrime_19 : decode cX9_isPrime 19 = .ok (.iload_n 0, 1) := by decide +kernel
theorem dX9_isPrime_20 : decode cX9_isPrime 20 = .ok (.iload_n 2, 1) := by decide +kernel
theorem dX9_isPrime_21 : decode cX9_isPrime 21 = .ok (.irem, 1) := by decide +kernel
theorem dX9_isPrime_22 : decode cX9_isPrime 22 = .ok (.ifCond .eq 7, 3) := by decide +kernel
theorem dX9_isPrime_25 : decode cX9_isPrime 25 = .ok (.iconst 1, 1) := by decide +kernel
theorem dX9_isPrime_26 : decode cX9_isPrime 26 = .ok (.goto 4, 3) := by decide +kernel
theorem dX9_isPrime_29 : decode cX9_isPrime 29 = .ok (.iconst 0, 1) := by decide +kernel
theorem dX9_isPrime_30 : decode cX9_isPrime 30 = .ok (.istore_n 1, 1) := by decide +kernel
theorem dX9_isPrime_31 : decode cX9_isPrime 31 = .ok (.iinc 2 1, 3) := by decide +kernel
theorem dX9_isPrime_34 : decode cX9_isPrime 34 = .ok (.goto (-24), 3) := by decide +kernel
theorem dX9_isPrime_37 : decode cX9_isPrime 37 = .ok (.iload_n 1, 1) := by decide +kernel
theorem dX9_isPrime_38 : decode cX9_isPrime 38 = .ok (.ireturn, 1) := by decide +kernel
set_option maxRecDepth 20000 in
theorem ggX9_isRoot_X9_within : GoodIn wsX9_isRoot wsX9_within := goodIn_r _ [4] (by decide +kernel) (by decide +kernel)
set_option maxRecDepth 20000 in
theorem gX9_isRoot_X9_within : GoodIn wsX9_isRoot (va_wsS RX9 32 yX9_within wsX9_within) := goodIn_app (goodIn_of _ (by decide +kernel)) ggX9_isRoot_X9_within
theorem dX9_isRoot_0 : decode cX9_isRoot 0 = .ok (.iload_n 1, 1) := by decide +kernel
theorem dX9_isRoot_1 : decode cX9_isRoot 1 = .ok (.iconst 2, 1) := by decide +kernel
theorem dX9_isRoot_2 : decode cX9_isRoot 2 = .ok (.iload_n 0, 1) := by decide +kernel
theorem dX9_isRoot_3 : decode cX9_isRoot 3 = .ok (.iconst 1, 1) := by decide +kernel
theorem dX9_isRoot_4 : decode cX9_isRoot 4 = .ok (.isub, 1) := by decide +kernel
theorem dX9_isRoot_5 : decode cX9_isRoot 5 = .ok (.invokestatic 32, 3) := by decide +kernel
theorem dX9_isRoot_8 : decode cX9_isRoot 8 = .ok (.ifCond .ne 5, 3) := by decide +kernel
theorem dX9_isRoot_11 : decode cX9_isRoot 11 = .ok (.iconst 0, 1) := by decide +kernel
theorem dX9_isRoot_12 : decode cX9_isRoot 12 = .ok (.ireturn, 1) := by decide +kernel
theorem dX9_isRoot_13 : decode cX9_isRoot 13 = .ok (.iload_n 1, 1) := by decide +kernel
theorem dX9_isRoot_14 : decode cX9_isRoot 14 = .ok (.istore_n 2, 1) := by decide +kernel
theorem dX9_isRoot_15 : decode cX9_isRoot 15 = .ok (.iconst 1, 1) := by decide +kernel
theorem dX9_isRoot_16 : decode cX9_isRoot 16 = .ok (.istore_n 3, 1) := by decide +kernel
theorem dX9_isRoot_17 : decode cX9_isRoot 17 = .ok (.iload_n 2, 1) := by decide +kernel
theorem dX9_isRoot_18 : decode cX9_isRoot 18 = .ok (.iconst 1, 1) := by decide +kernel
theorem dX9_isRoot_19 : decode cX9_isRoot 19 = .ok (.if_icmp .eq 15, 3) := by decide +kernel
theorem dX9_isRoot_22 : decode cX9_isRoot 22 = .ok (.iload_n 2, 1) := by decide +kernel
theorem dX9_isRoot_23 : decode cX9_isRoot 23 = .ok (.iload_n 1, 1) := by decide +kernel
theorem dX9_isRoot_24 : decode cX9_isRoot 24 = .ok (.imul, 1) := by decide +kernel
theorem dX9_isRoot_25 : decode cX9_isRoot 25 = .ok (.iload_n 0, 1) := by decide +kernel
theorem dX9_isRoot_26 : decode cX9_isRoot 26 = .ok (.irem, 1) := by decide +kernel
theorem dX9_isRoot_27 : decode cX9_isRoot 27 = .ok (.istore_n 2, 1) := by decide +kernel
theorem dX9_isRoot_28 : decode cX9_isRoot 28 = .ok (.iinc 3 1, 3) := by decide +kernel
theorem dX9_isRoot_31 : decode cX9_isRoot 31 = .ok (.goto (-14), 3) := by decide +kernel
theorem dX9_isRoot_34 : decode cX9_isRoot 34 = .ok (.iload_n 3, 1) := by decide +kernel
theorem dX9_isRoot_35 : decode cX9_isRoot 35 = .ok (.iload_n 0, 1) := by decide +kernel
theorem dX9_isRoot_36 : decode cX9_isRoot 36 = .ok (.iconst 1, 1) := by decide +kernel
theorem dX9_isRoot_37 : decode cX9_isRoot 37 = .ok (.isub, 1) := by decide +kernel
theorem dX9_isRoot_38 : decode cX9_isRoot 38 = .ok (.if_icmp .ne 7, 3) := by decide +kernel
theorem dX9_isRoot_41 : decode cX9_isRoot 41 = .ok (.iconst 1, 1) := by decide +kernel
theorem dX9_isRoot_42 : decode cX9_isRoot 42 = .ok (.goto 4, 3) := by decide +kernel
theorem dX9_isRoot_45 : decode cX9_isRoot 45 = .ok (.iconst 0, 1) := by decide +kernel
theorem dX9_isRoot_46 : decode cX9_isRoot 46 = .ok (.ireturn, 1) := by decide +kernel
set_option maxRecDepth 20000 in
theorem ggX9_erdosTuran_X9_isSet : GoodIn wsX9_erdosTuran wsX9_isSet := goodIn_r _ [4, 5, 6, 3, 7] (by decide +kernel) (by decide +kernel)
set_option maxRecDepth 20000 in
theorem gX9_erdosTuran_X9_isSet : GoodIn wsX9_erdosTuran (va_wsS RX9 61 yX9_isSet wsX9_isSet) := goodIn_app (goodIn_of _ (by decide +kernel)) ggX9_erdosTuran_X9_isSet
set_option maxRecDepth 20000 in
theorem ggX9_erdosTuran_X9_isPrime : GoodIn wsX9_erdosTuran wsX9_isPrime := goodIn_r _ [10, 5, 6, 3, 7] (by decide +kernel) (by decide +kernel)
set_option maxRecDepth 20000 in
theorem gX9_erdosTuran_X9_isPrime : GoodIn wsX9_erdosTuran (va_wsS RX9 137 yX9_isPrime wsX9_isPrime) := goodIn_app (goodIn_of _ (by decide +kernel)) ggX9_erdosTuran_X9_isPrime
set_option maxRecDepth 20000 in
theorem ggX9_erdosTuran_X9_refused : GoodIn wsX9_erdosTuran wsX9_refused := goodIn_r _ [14, 15, 49, 50, 51, 52, 53, 54, 55, 56, 57, 58] (by decide +kernel) (by decide +kernel)
set_option maxRecDepth 20000 in
theorem gX9_erdosTuran_X9_refused : GoodIn wsX9_erdosTuran (wsV RX9 39 RX9 yX9_refused wsX9_refused) := goodIn_app (goodIn_of _ (by decide +kernel)) ggX9_erdosTuran_X9_refused
set_option maxRecDepth 20000 in
theorem ggX9_erdosTuran_X9_saves : GoodIn wsX9_erdosTuran wsX9_saves := goodIn_r _ [19, 20, 21, 22, 49, 50, 51, 52, 53, 54, 55, 56, 57, 58] (by decide +kernel) (by decide +kernel)
set_option maxRecDepth 20000 in
theorem gX9_erdosTuran_X9_saves : GoodIn wsX9_erdosTuran (wsV RX9 67 RX9 yX9_saves wsX9_saves) := goodIn_app (goodIn_of _ (by decide +kernel)) ggX9_erdosTuran_X9_saves
set_option maxRecDepth 20000 in
theorem ggX9_erdosTuran_X9_begins : GoodIn wsX9_erdosTuran wsX9_begins := goodIn_r _ [26, 27, 49, 50, 51, 52, 53, 54, 55, 56, 57, 58] (by decide +kernel) (by decide +kernel)
set_option maxRecDepth 20000 in
theorem gX9_erdosTuran_X9_begins : GoodIn wsX9_erdosTuran (wsV RX9 54 RX9 yX9_begins wsX9_begins) := goodIn_app (goodIn_of _ (by decide +kernel)) ggX9_erdosTuran_X9_begins
set_option maxRecDepth 20000 in
theorem ggX9_erdosTuran_X9_comes : GoodIn wsX9_erdosTuran wsX9_comes := goodIn_r _ [31, 27, 32, 49, 50, 51, 52, 53, 54, 55, 56, 57, 58] (by decide +kernel) (by decide +kernel)
set_option maxRecDepth 20000 in
theorem gX9_erdosTuran_X9_comes : GoodIn wsX9_erdosTuran (wsV RX9 57 RX9 yX9_comes wsX9_comes) := goodIn_app (goodIn_of _ (by decide +kernel)) ggX9_erdosTuran_X9_comes
set_option maxRecDepth 20000 in
theorem ggX9_erdosTuran_X9_becomes : GoodIn wsX9_erdosTuran wsX9_becomes := goodIn_r _ [36, 22, 27, 32, 49, 50, 51, 52, 53, 54, 55, 56, 57, 58] (by decide +kernel) (by decide +kernel)
set_option maxRecDepth 20000 in
theorem gX9_erdosTuran_X9_becomes : GoodIn wsX9_erdosTuran (wsV RX9 74 RX9 yX9_becomes wsX9_becomes) := goodIn_app (goodIn_of _ (by decide +kernel)) ggX9_erdosTuran_X9_becomes
set_option maxRecDepth 20000 in
theorem ggX9_erdosTuran_X9_lengthOf : GoodIn wsX9_erdosTuran wsX9_lengthOf := goodIn_r _ [40, 41, 42, 43, 3, 44, 22, 45, 46, 47, 48, 49, 50, 51, 52, 53, 54, 55, 56, 57, 58] (by decide +kernel) (by decide +kernel)
set_option maxRecDepth 20000 in
theorem gX9_erdosTuran_X9_lengthOf : GoodIn wsX9_erdosTuran (wsV RX9 77 RX9 yX9_lengthOf wsX9_lengthOf) := goodIn_app (goodIn_of _ (by decide +kernel)) ggX9_erdosTuran_X9_lengthOf
theorem dX9_erdosTuran_0 : decode cX9_erdosTuran 0 = .ok (.aload_n 0, 1) := by decide +kernel
theorem dX9_erdosTuran_1 : decode cX9_erdosTuran 1 = .ok (.iload_n 2, 1) := by decide +kernel
theorem dX9_erdosTuran_2 : decode cX9_erdosTuran 2 = .ok (.invokestatic 61, 3) := by decide +kernel
theorem dX9_erdosTuran_5 : decode cX9_erdosTuran 5 = .ok (.ifCond .ne 7, 3) := by decide +kernel
theorem dX9_erdosTuran_8 : decode cX9_erdosTuran 8 = .ok (.iconst 1, 1) := by decide +kernel
theorem dX9_erdosTuran_9 : decode cX9_erdosTuran 9 = .ok (.goto 15, 3) := by decide +kernel
theorem dX9_erdosTuran_12 : decode cX9_erdosTuran 12 = .ok (.iload_n 1, 1) := by decide +kernel
theorem dX9_erdosTuran_13 : decode cX9_erdosTuran 13 = .ok (.invokestatic 137, 3) := by decide +kernel
theorem dX9_erdosTuran_16 : decode cX9_erdosTuran 16 = .ok (.ifCond .eq 7, 3) := by decide +kernel
theorem dX9_erdosTuran_19 : decode cX9_erdosTuran 19 = .ok (.iconst 0, 1) := by decide +kernel
theorem dX9_erdosTuran_20 : decode cX9_erdosTuran 20 = .ok (.goto 4, 3) := by decide +kernel
theorem dX9_erdosTuran_23 : decode cX9_erdosTuran 23 = .ok (.iconst 2, 1) := by decide +kernel
theorem dX9_erdosTuran_24 : decode cX9_erdosTuran 24 = .ok (.invokevirtual 39, 3) := by decide +kernel
theorem dX9_erdosTuran_27 : decode cX9_erdosTuran 27 = .ok (.ifCond .eq 5, 3) := by decide +kernel
theorem dX9_erdosTuran_30 : decode cX9_erdosTuran 30 = .ok (.iconst 0, 1) := by decide +kernel
theorem dX9_erdosTuran_31 : decode cX9_erdosTuran 31 = .ok (.ireturn, 1) := by decide +kernel
theorem dX9_erdosTuran_32 : decode cX9_erdosTuran 32 = .ok (.aload_n 0, 1) := by decide +kernel
theorem dX9_erdosTuran_33 : decode cX9_erdosTuran 33 = .ok (.invokevirtual 67, 3) := by decide +kernel
theorem dX9_erdosTuran_36 : decode cX9_erdosTuran 36 = .ok (.aload_n 0, 1) := by decide +kernel
theorem dX9_erdosTuran_37 : decode cX9_erdosTuran 37 = .ok (.invokevirtual 54, 3) := by decide +kernel
theorem dX9_erdosTuran_40 : decode cX9_erdosTuran 40 = .ok (.iconst 0, 1) := by decide +kernel
theorem dX9_erdosTuran_41 : decode cX9_erdosTuran 41 = .ok (.istore_n 3, 1) := by decide +kernel
theorem dX9_erdosTuran_42 : decode cX9_erdosTuran 42 = .ok (.iload_n 3, 1) := by decide +kernel
theorem dX9_erdosTuran_43 : decode cX9_erdosTuran 43 = .ok (.iload_n 1, 1) := by decide +kernel
theorem dX9_erdosTuran_44 : decode cX9_erdosTuran 44 = .ok (.if_icmp .ge 24, 3) := by decide +kernel
theorem dX9_erdosTuran_47 : decode cX9_erdosTuran 47 = .ok (.aload_n 0, 1) := by decide +kernel
theorem dX9_erdosTuran_48 : decode cX9_erdosTuran 48 = .ok (.iconst 2, 1) := by decide +kernel
theorem dX9_erdosTuran_49 : decode cX9_erdosTuran 49 = .ok (.iload_n 1, 1) := by decide +kernel
theorem dX9_erdosTuran_50 : decode cX9_erdosTuran 50 = .ok (.imul, 1) := by decide +kernel
theorem dX9_erdosTuran_51 : decode cX9_erdosTuran 51 = .ok (.iload_n 3, 1) := by decide +kernel
theorem dX9_erdosTuran_52 : decode cX9_erdosTuran 52 = .ok (.imul, 1) := by decide +kernel
theorem dX9_erdosTuran_53 : decode cX9_erdosTuran 53 = .ok (.iload_n 3, 1) := by decide +kernel
theorem dX9_erdosTuran_54 : decode cX9_erdosTuran 54 = .ok (.iload_n 3, 1) := by decide +kernel
theorem dX9_erdosTuran_55 : decode cX9_erdosTuran 55 = .ok (.imul, 1) := by decide +kernel
theorem dX9_erdosTuran_56 : decode cX9_erdosTuran 56 = .ok (.iload_n 1, 1) := by decide +kernel
theorem dX9_erdosTuran_57 : decode cX9_erdosTuran 57 = .ok (.irem, 1) := by decide +kernel
theorem dX9_erdosTuran_58 : decode cX9_erdosTuran 58 = .ok (.iadd, 1) := by decide +kernel
theorem dX9_erdosTuran_59 : decode cX9_erdosTuran 59 = .ok (.invokevirtual 57, 3) := by decide +kernel
theorem dX9_erdosTuran_62 : decode cX9_erdosTuran 62 = .ok (.iinc 3 1, 3) := by decide +kernel
theorem dX9_erdosTuran_65 : decode cX9_erdosTuran 65 = .ok (.goto (-23), 3) := by decide +kernel
theorem dX9_erdosTuran_68 : decode cX9_erdosTuran 68 = .ok (.aload_n 0, 1) := by decide +kernel
theorem dX9_erdosTuran_69 : decode cX9_erdosTuran 69 = .ok (.iload_n 2, 1) := by decide +kernel
theorem dX9_erdosTuran_70 : decode cX9_erdosTuran 70 = .ok (.invokevirtual 74, 3) := by decide +kernel
theorem dX9_erdosTuran_73 : decode cX9_erdosTuran 73 = .ok (.pop, 1) := by decide +kernel
theorem dX9_erdosTuran_74 : decode cX9_erdosTuran 74 = .ok (.aload_n 0, 1) := by decide +kernel
theorem dX9_erdosTuran_75 : decode cX9_erdosTuran 75 = .ok (.iload_n 2, 1) := by decide +kernel
theorem dX9_erdosTuran_76 : decode cX9_erdosTuran 76 = .ok (.invokevirtual 77, 3) := by decide +kernel
theorem dX9_erdosTuran_79 : decode cX9_erdosTuran 79 = .ok (.ireturn, 1) := by decide +kernel
set_option maxRecDepth 20000 in
theorem ggX9_ruzsa_X9_isSet : GoodIn wsX9_ruzsa wsX9_isSet := goodIn_r _ [5, 6, 7, 4, 8] (by decide +kernel) (by decide +kernel)
set_option maxRecDepth 20000 in
theorem gX9_ruzsa_X9_isSet : GoodIn wsX9_ruzsa (va_wsS RX9 61 yX9_isSet wsX9_isSet) := goodIn_app (goodIn_of _ (by decide +kernel)) ggX9_ruzsa_X9_isSet
set_option maxRecDepth 20000 in
theorem ggX9_ruzsa_X9_isPrime : GoodIn wsX9_ruzsa wsX9_isPrime := goodIn_r _ [11, 6, 7, 4, 8] (by decide +kernel) (by decide +kernel)
set_option maxRecDepth 20000 in
theorem gX9_ruzsa_X9_isPrime : GoodIn wsX9_ruzsa (va_wsS RX9 137 yX9_isPrime wsX9_isPrime) := goodIn_app (goodIn_of _ (by decide +kernel)) ggX9_ruzsa_X9_isPrime
set_option maxRecDepth 20000 in
theorem ggX9_ruzsa_X9_isRoot : GoodIn wsX9_ruzsa wsX9_isRoot := goodIn_r _ [14, 6, 7, 4, 8] (by decide +kernel) (by decide +kernel)
set_option maxRecDepth 20000 in
theorem gX9_ruzsa_X9_isRoot : GoodIn wsX9_ruzsa (va_wsS RX9 140 yX9_isRoot wsX9_isRoot) := goodIn_app (goodIn_of _ (by decide +kernel)) ggX9_ruzsa_X9_isRoot
set_option maxRecDepth 20000 in
theorem ggX9_ruzsa_X9_refused : GoodIn wsX9_ruzsa wsX9_refused := goodIn_r _ [18, 19, 52, 53, 54, 55, 56, 57, 58, 59, 60, 61] (by decide +kernel) (by decide +kernel)
set_option maxRecDepth 20000 in
theorem gX9_ruzsa_X9_refused : GoodIn wsX9_ruzsa (wsV RX9 39 RX9 yX9_refused wsX9_refused) := goodIn_app (goodIn_of _ (by decide +kernel)) ggX9_ruzsa_X9_refused
set_option maxRecDepth 20000 in
theorem ggX9_ruzsa_X9_saves : GoodIn wsX9_ruzsa wsX9_saves := goodIn_r _ [23, 24, 25, 1, 52, 53, 54, 55, 56, 57, 58, 59, 60, 61] (by decide +kernel) (by decide +kernel)
set_option maxRecDepth 20000 in
theorem gX9_ruzsa_X9_saves : GoodIn wsX9_ruzsa (wsV RX9 67 RX9 yX9_saves wsX9_saves) := goodIn_app (goodIn_of _ (by decide +kernel)) ggX9_ruzsa_X9_saves
set_option maxRecDepth 20000 in
theorem ggX9_ruzsa_X9_begins : GoodIn wsX9_ruzsa wsX9_begins := goodIn_r _ [29, 30, 52, 53, 54, 55, 56, 57, 58, 59, 60, 61] (by decide +kernel) (by decide +kernel)
set_option maxRecDepth 20000 in
theorem gX9_ruzsa_X9_begins : GoodIn wsX9_ruzsa (wsV RX9 54 RX9 yX9_begins wsX9_begins) := goodIn_app (goodIn_of _ (by decide +kernel)) ggX9_ruzsa_X9_begins
set_option maxRecDepth 20000 in
theorem ggX9_ruzsa_X9_comes : GoodIn wsX9_ruzsa wsX9_comes := goodIn_r _ [34, 30, 35, 52, 53, 54, 55, 56, 57, 58, 59, 60, 61] (by decide +kernel) (by decide +kernel)
set_option maxRecDepth 20000 in
theorem gX9_ruzsa_X9_comes : GoodIn wsX9_ruzsa (wsV RX9 57 RX9 yX9_comes wsX9_comes) := goodIn_app (goodIn_of _ (by decide +kernel)) ggX9_ruzsa_X9_comes
set_option maxRecDepth 20000 in
theorem ggX9_ruzsa_X9_becomes : GoodIn wsX9_ruzsa wsX9_becomes := goodIn_r _ [39, 1, 30, 35, 52, 53, 54, 55, 56, 57, 58, 59, 60, 61] (by decide +kernel) (by decide +kernel)
set_option maxRecDepth 20000 in
theorem gX9_ruzsa_X9_becomes : GoodIn wsX9_ruzsa (wsV RX9 74 RX9 yX9_becomes wsX9_becomes) := goodIn_app (goodIn_of _ (by decide +kernel)) ggX9_ruzsa_X9_becomes
set_option maxRecDepth 20000 in
theorem ggX9_ruzsa_X9_lengthOf : GoodIn wsX9_ruzsa wsX9_lengthOf := goodIn_r _ [43, 44, 45, 46, 4, 47, 1, 48, 49, 50, 51, 52, 53, 54, 55, 56, 57, 58, 59, 60, 61] (by decide +kernel) (by decide +kernel)
set_option maxRecDepth 20000 in
theorem gX9_ruzsa_X9_lengthOf : GoodIn wsX9_ruzsa (wsV RX9 77 RX9 yX9_lengthOf wsX9_lengthOf) := goodIn_app (goodIn_of _ (by decide +kernel)) ggX9_ruzsa_X9_lengthOf
theorem dX9_ruzsa_0 : decode cX9_ruzsa 0 = .ok (.aload_n 0, 1) := by decide +kernel
theorem dX9_ruzsa_1 : decode cX9_ruzsa 1 = .ok (.iload_n 3, 1) := by decide +kernel
theorem dX9_ruzsa_2 : decode cX9_ruzsa 2 = .ok (.invokestatic 61, 3) := by decide +kernel
theorem dX9_ruzsa_5 : decode cX9_ruzsa 5 = .ok (.ifCond .ne 7, 3) := by decide +kernel
theorem dX9_ruzsa_8 : decode cX9_ruzsa 8 = .ok (.iconst 1, 1) := by decide +kernel
theorem dX9_ruzsa_9 : decode cX9_ruzsa 9 = .ok (.goto 23, 3) := by decide +kernel
theorem dX9_ruzsa_12 : decode cX9_ruzsa 12 = .ok (.iload_n 1, 1) := by decide +kernel
theorem dX9_ruzsa_13 : decode cX9_ruzsa 13 = .ok (.invokestatic 137, 3) := by decide +kernel
theorem dX9_ruzsa_16 : decode cX9_ruzsa 16 = .ok (.ifCond .eq 15, 3) := by decide +kernel
theorem dX9_ruzsa_19 : decode cX9_ruzsa 19 = .ok (.iload_n 1, 1) := by decide +kernel
theorem dX9_ruzsa_20 : decode cX9_ruzsa 20 = .ok (.iload_n 2, 1) := by decide +kernel
theorem dX9_ruzsa_21 : decode cX9_ruzsa 21 = .ok (.invokestatic 140, 3) := by decide +kernel
theorem dX9_ruzsa_24 : decode cX9_ruzsa 24 = .ok (.ifCond .eq 7, 3) := by decide +kernel
theorem dX9_ruzsa_27 : decode cX9_ruzsa 27 = .ok (.iconst 0, 1) := by decide +kernel
theorem dX9_ruzsa_28 : decode cX9_ruzsa 28 = .ok (.goto 4, 3) := by decide +kernel
theorem dX9_ruzsa_31 : decode cX9_ruzsa 31 = .ok (.iconst 2, 1) := by decide +kernel
theorem dX9_ruzsa_32 : decode cX9_ruzsa 32 = .ok (.invokevirtual 39, 3) := by decide +kernel
theorem dX9_ruzsa_35 : decode cX9_ruzsa 35 = .ok (.ifCond .eq 5, 3) := by decide +kernel
theorem dX9_ruzsa_38 : decode cX9_ruzsa 38 = .ok (.iconst 0, 1) := by decide +kernel
theorem dX9_ruzsa_39 : decode cX9_ruzsa 39 = .ok (.ireturn, 1) := by decide +kernel
theorem dX9_ruzsa_40 : decode cX9_ruzsa 40 = .ok (.aload_n 0, 1) := by decide +kernel
theorem dX9_ruzsa_41 : decode cX9_ruzsa 41 = .ok (.invokevirtual 67, 3) := by decide +kernel
theorem dX9_ruzsa_44 : decode cX9_ruzsa 44 = .ok (.aload_n 0, 1) := by decide +kernel
theorem dX9_ruzsa_45 : decode cX9_ruzsa 45 = .ok (.invokevirtual 54, 3) := by decide +kernel
theorem dX9_ruzsa_48 : decode cX9_ruzsa 48 = .ok (.iconst 1, 1) := by decide +kernel
theorem dX9_ruzsa_49 : decode cX9_ruzsa 49 = .ok (.istore 4, 2) := by decide +kernel
theorem dX9_ruzsa_51 : decode cX9_ruzsa 51 = .ok (.iconst 1, 1) := by decide +kernel
theorem dX9_ruzsa_52 : decode cX9_ruzsa 52 = .ok (.istore 5, 2) := by decide +kernel
theorem dX9_ruzsa_54 : decode cX9_ruzsa 54 = .ok (.iload 5, 2) := by decide +kernel
theorem dX9_ruzsa_56 : decode cX9_ruzsa 56 = .ok (.iload_n 1, 1) := by decide +kernel
theorem dX9_ruzsa_57 : decode cX9_ruzsa 57 = .ok (.if_icmp .ge 38, 3) := by decide +kernel
theorem dX9_ruzsa_60 : decode cX9_ruzsa 60 = .ok (.iload 4, 2) := by decide +kernel
theorem dX9_ruzsa_62 : decode cX9_ruzsa 62 = .ok (.iload_n 2, 1) := by decide +kernel
theorem dX9_ruzsa_63 : decode cX9_ruzsa 63 = .ok (.imul, 1) := by decide +kernel
theorem dX9_ruzsa_64 : decode cX9_ruzsa 64 = .ok (.iload_n 1, 1) := by decide +kernel
theorem dX9_ruzsa_65 : decode cX9_ruzsa 65 = .ok (.irem, 1) := by decide +kernel
theorem dX9_ruzsa_66 : decode cX9_ruzsa 66 = .ok (.istore 4, 2) := by decide +kernel
theorem dX9_ruzsa_68 : decode cX9_ruzsa 68 = .ok (.aload_n 0, 1) := by decide +kernel
theorem dX9_ruzsa_69 : decode cX9_ruzsa 69 = .ok (.iload_n 1, 1) := by decide +kernel
theorem dX9_ruzsa_70 : decode cX9_ruzsa 70 = .ok (.iload 5, 2) := by decide +kernel
theorem dX9_ruzsa_72 : decode cX9_ruzsa 72 = .ok (.imul, 1) := by decide +kernel
theorem dX9_ruzsa_73 : decode cX9_ruzsa 73 = .ok (.iload_n 1, 1) := by decide +kernel
theorem dX9_ruzsa_74 : decode cX9_ruzsa 74 = .ok (.iconst 1, 1) := by decide +kernel
theorem dX9_ruzsa_75 : decode cX9_ruzsa 75 = .ok (.isub, 1) := by decide +kernel
theorem dX9_ruzsa_76 : decode cX9_ruzsa 76 = .ok (.iload 4, 2) := by decide +kernel
theorem dX9_ruzsa_78 : decode cX9_ruzsa 78 = .ok (.imul, 1) := by decide +kernel
theorem dX9_ruzsa_79 : decode cX9_ruzsa 79 = .ok (.iadd, 1) := by decide +kernel
theorem dX9_ruzsa_80 : decode cX9_ruzsa 80 = .ok (.iload_n 1, 1) := by decide +kernel
theorem dX9_ruzsa_81 : decode cX9_ruzsa 81 = .ok (.iload_n 1, 1) := by decide +kernel
theorem dX9_ruzsa_82 : decode cX9_ruzsa 82 = .ok (.iconst 1, 1) := by decide +kernel
theorem dX9_ruzsa_83 : decode cX9_ruzsa 83 = .ok (.isub, 1) := by decide +kernel
theorem dX9_ruzsa_84 : decode cX9_ruzsa 84 = .ok (.imul, 1) := by decide +kernel
theorem dX9_ruzsa_85 : decode cX9_ruzsa 85 = .ok (.irem, 1) := by decide +kernel
theorem dX9_ruzsa_86 : decode cX9_ruzsa 86 = .ok (.invokevirtual 57, 3) := by decide +kernel
theorem dX9_ruzsa_89 : decode cX9_ruzsa 89 = .ok (.iinc 5 1, 3) := by decide +kernel
theorem dX9_ruzsa_92 : decode cX9_ruzsa 92 = .ok (.goto (-38), 3) := by decide +kernel
theorem dX9_ruzsa_95 : decode cX9_ruzsa 95 = .ok (.aload_n 0, 1) := by decide +kernel
theorem dX9_ruzsa_96 : decode cX9_ruzsa 96 = .ok (.iload_n 3, 1) := by decide +kernel
theorem dX9_ruzsa_97 : decode cX9_ruzsa 97 = .ok (.invokevirtual 74, 3) := by decide +kernel
theorem dX9_ruzsa_100 : decode cX9_ruzsa 100 = .ok (.pop, 1) := by decide +kernel
theorem dX9_ruzsa_101 : decode cX9_ruzsa 101 = .ok (.aload_n 0, 1) := by decide +kernel
theorem dX9_ruzsa_102 : decode cX9_ruzsa 102 = .ok (.getfield 7, 3) := by decide +kernel
theorem dX9_ruzsa_105 : decode cX9_ruzsa 105 = .ok (.iconst 0, 1) := by decide +kernel
theorem dX9_ruzsa_106 : decode cX9_ruzsa 106 = .ok (.iload_n 1, 1) := by decide +kernel
theorem dX9_ruzsa_107 : decode cX9_ruzsa 107 = .ok (.iload_n 1, 1) := by decide +kernel
theorem dX9_ruzsa_108 : decode cX9_ruzsa 108 = .ok (.iconst 1, 1) := by decide +kernel
theorem dX9_ruzsa_109 : decode cX9_ruzsa 109 = .ok (.isub, 1) := by decide +kernel
theorem dX9_ruzsa_110 : decode cX9_ruzsa 110 = .ok (.imul, 1) := by decide +kernel
theorem dX9_ruzsa_111 : decode cX9_ruzsa 111 = .ok (.iastore, 1) := by decide +kernel
theorem dX9_ruzsa_112 : decode cX9_ruzsa 112 = .ok (.aload_n 0, 1) := by decide +kernel
theorem dX9_ruzsa_113 : decode cX9_ruzsa 113 = .ok (.iload_n 3, 1) := by decide +kernel
theorem dX9_ruzsa_114 : decode cX9_ruzsa 114 = .ok (.invokevirtual 77, 3) := by decide +kernel
theorem dX9_ruzsa_117 : decode cX9_ruzsa 117 = .ok (.ireturn, 1) := by decide +kernel
set_option maxRecDepth 20000 in
theorem ggX9_residues_X9_isSet : GoodIn wsX9_residues wsX9_isSet := goodIn_r _ [5, 6, 7, 4, 8] (by decide +kernel) (by decide +kernel)
set_option maxRecDepth 20000 in
theorem gX9_residues_X9_isSet : GoodIn wsX9_residues (va_wsS RX9 61 yX9_isSet wsX9_isSet) := goodIn_app (goodIn_of _ (by decide +kernel)) ggX9_residues_X9_isSet
set_option maxRecDepth 20000 in
theorem ggX9_residues_X9_isPrime : GoodIn wsX9_residues wsX9_isPrime := goodIn_r _ [11, 6, 7, 4, 8] (by decide +kernel) (by decide +kernel)
set_option maxRecDepth 20000 in
theorem gX9_residues_X9_isPrime : GoodIn wsX9_residues (va_wsS RX9 137 yX9_isPrime wsX9_isPrime) := goodIn_app (goodIn_of _ (by decide +kernel)) ggX9_residues_X9_isPrime
set_option maxRecDepth 20000 in
theorem ggX9_residues_X9_refused : GoodIn wsX9_residues wsX9_refused := goodIn_r _ [15, 16, 37, 38, 39, 40, 41, 42, 43, 44, 45, 46] (by decide +kernel) (by decide +kernel)
set_option maxRecDepth 20000 in
theorem gX9_residues_X9_refused : GoodIn wsX9_residues (wsV RX9 39 RX9 yX9_refused wsX9_refused) := goodIn_app (goodIn_of _ (by decide +kernel)) ggX9_residues_X9_refused
set_option maxRecDepth 20000 in
theorem ggX9_residues_X9_saves : GoodIn wsX9_residues wsX9_saves := goodIn_r _ [20, 21, 22, 1, 37, 38, 39, 40, 41, 42, 43, 44, 45, 46] (by decide +kernel) (by decide +kernel)
set_option maxRecDepth 20000 in
theorem gX9_residues_X9_saves : GoodIn wsX9_residues (wsV RX9 67 RX9 yX9_saves wsX9_saves) := goodIn_app (goodIn_of _ (by decide +kernel)) ggX9_residues_X9_saves
set_option maxRecDepth 20000 in
theorem ggX9_residues_X9_begins : GoodIn wsX9_residues wsX9_begins := goodIn_r _ [26, 27, 37, 38, 39, 40, 41, 42, 43, 44, 45, 46] (by decide +kernel) (by decide +kernel)
set_option maxRecDepth 20000 in
theorem gX9_residues_X9_begins : GoodIn wsX9_residues (wsV RX9 54 RX9 yX9_begins wsX9_begins) := goodIn_app (goodIn_of _ (by decide +kernel)) ggX9_residues_X9_begins
set_option maxRecDepth 20000 in
theorem ggX9_residues_X9_comes : GoodIn wsX9_residues wsX9_comes := goodIn_r _ [31, 27, 32, 37, 38, 39, 40, 41, 42, 43, 44, 45, 46] (by decide +kernel) (by decide +kernel)
set_option maxRecDepth 20000 in
theorem gX9_residues_X9_comes : GoodIn wsX9_residues (wsV RX9 57 RX9 yX9_comes wsX9_comes) := goodIn_app (goodIn_of _ (by decide +kernel)) ggX9_residues_X9_comes
set_option maxRecDepth 20000 in
theorem ggX9_residues_X9_becomes : GoodIn wsX9_residues wsX9_becomes := goodIn_r _ [36, 1, 27, 32, 37, 38, 39, 40, 41, 42, 43, 44, 45, 46] (by decide +kernel) (by decide +kernel)
set_option maxRecDepth 20000 in
theorem gX9_residues_X9_becomes : GoodIn wsX9_residues (wsV RX9 74 RX9 yX9_becomes wsX9_becomes) := goodIn_app (goodIn_of _ (by decide +kernel)) ggX9_residues_X9_becomes
theorem dX9_residues_0 : decode cX9_residues 0 = .ok (.aload_n 0, 1) := by decide +kernel
theorem dX9_residues_1 : decode cX9_residues 1 = .ok (.iload_n 2, 1) := by decide +kernel
theorem dX9_residues_2 : decode cX9_residues 2 = .ok (.invokestatic 61, 3) := by decide +kernel
theorem dX9_residues_5 : decode cX9_residues 5 = .ok (.ifCond .ne 7, 3) := by decide +kernel
theorem dX9_residues_8 : decode cX9_residues 8 = .ok (.iconst 1, 1) := by decide +kernel
theorem dX9_residues_9 : decode cX9_residues 9 = .ok (.goto 15, 3) := by decide +kernel
theorem dX9_residues_12 : decode cX9_residues 12 = .ok (.iload_n 1, 1) := by decide +kernel
theorem dX9_residues_13 : decode cX9_residues 13 = .ok (.invokestatic 137, 3) := by decide +kernel
theorem dX9_residues_16 : decode cX9_residues 16 = .ok (.ifCond .eq 7, 3) := by decide +kernel
theorem dX9_residues_19 : decode cX9_residues 19 = .ok (.iconst 0, 1) := by decide +kernel
theorem dX9_residues_20 : decode cX9_residues 20 = .ok (.goto 4, 3) := by decide +kernel
theorem dX9_residues_23 : decode cX9_residues 23 = .ok (.iconst 2, 1) := by decide +kernel
theorem dX9_residues_24 : decode cX9_residues 24 = .ok (.invokevirtual 39, 3) := by decide +kernel
theorem dX9_residues_27 : decode cX9_residues 27 = .ok (.ifCond .eq 5, 3) := by decide +kernel
theorem dX9_residues_30 : decode cX9_residues 30 = .ok (.iconst 0, 1) := by decide +kernel
theorem dX9_residues_31 : decode cX9_residues 31 = .ok (.ireturn, 1) := by decide +kernel
theorem dX9_residues_32 : decode cX9_residues 32 = .ok (.aload_n 0, 1) := by decide +kernel
theorem dX9_residues_33 : decode cX9_residues 33 = .ok (.invokevirtual 67, 3) := by decide +kernel
theorem dX9_residues_36 : decode cX9_residues 36 = .ok (.aload_n 0, 1) := by decide +kernel
theorem dX9_residues_37 : decode cX9_residues 37 = .ok (.invokevirtual 54, 3) := by decide +kernel
theorem dX9_residues_40 : decode cX9_residues 40 = .ok (.iconst 1, 1) := by decide +kernel
theorem dX9_residues_41 : decode cX9_residues 41 = .ok (.istore_n 3, 1) := by decide +kernel
theorem dX9_residues_42 : decode cX9_residues 42 = .ok (.iload_n 3, 1) := by decide +kernel
theorem dX9_residues_43 : decode cX9_residues 43 = .ok (.iload_n 1, 1) := by decide +kernel
theorem dX9_residues_44 : decode cX9_residues 44 = .ok (.if_icmp .ge 18, 3) := by decide +kernel
theorem dX9_residues_47 : decode cX9_residues 47 = .ok (.aload_n 0, 1) := by decide +kernel
