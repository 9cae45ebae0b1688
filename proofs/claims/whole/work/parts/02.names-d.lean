theorem dX2_exchange_53 : decode cX2_exchange 53 = .ok (.aload_n 0, 1) := by decide +kernel
theorem dX2_exchange_54 : decode cX2_exchange 54 = .ok (.iload_n 2, 1) := by decide +kernel
theorem dX2_exchange_55 : decode cX2_exchange 55 = .ok (.iload_n 3, 1) := by decide +kernel
theorem dX2_exchange_56 : decode cX2_exchange 56 = .ok (.invokevirtual 79, 3) := by decide +kernel
theorem dX2_exchange_59 : decode cX2_exchange 59 = .ok (.aload_n 0, 1) := by decide +kernel
theorem dX2_exchange_60 : decode cX2_exchange 60 = .ok (.dup, 1) := by decide +kernel
theorem dX2_exchange_61 : decode cX2_exchange 61 = .ok (.getfield 34, 3) := by decide +kernel
theorem dX2_exchange_64 : decode cX2_exchange 64 = .ok (.iconst 1, 1) := by decide +kernel
theorem dX2_exchange_65 : decode cX2_exchange 65 = .ok (.iadd, 1) := by decide +kernel
theorem dX2_exchange_66 : decode cX2_exchange 66 = .ok (.putfield 34, 3) := by decide +kernel
theorem dX2_exchange_69 : decode cX2_exchange 69 = .ok (.iload 5, 2) := by decide +kernel
theorem dX2_exchange_71 : decode cX2_exchange 71 = .ok (.ireturn, 1) := by decide +kernel
set_option maxRecDepth 20000 in
theorem ggX2_comeToFirstPlace_X2_sortAt : GoodIn wsX2_comeToFirstPlace wsX2_sortAt := goodIn_r _ [7, 8, 9, 10, 11, 12, 17, 18, 19, 20, 21, 22, 23, 24] (by decide +kernel) (by decide +kernel)
set_option maxRecDepth 20000 in
theorem gX2_comeToFirstPlace_X2_sortAt : GoodIn wsX2_comeToFirstPlace (wsV RX2 76 RX2 yX2_sortAt wsX2_sortAt) := goodIn_app (goodIn_of _ (by decide +kernel)) ggX2_comeToFirstPlace_X2_sortAt
set_option maxRecDepth 20000 in
theorem ggX2_comeToFirstPlace_X2_put : GoodIn wsX2_comeToFirstPlace wsX2_put := goodIn_r _ [16, 8, 9, 17, 18, 19, 20, 21, 22, 23, 24] (by decide +kernel) (by decide +kernel)
set_option maxRecDepth 20000 in
theorem gX2_comeToFirstPlace_X2_put : GoodIn wsX2_comeToFirstPlace (wsV RX2 79 RX2 yX2_put wsX2_put) := goodIn_app (goodIn_of _ (by decide +kernel)) ggX2_comeToFirstPlace_X2_put
theorem dX2_comeToFirstPlace_0 : decode cX2_comeToFirstPlace 0 = .ok (.aload_n 0, 1) := by decide +kernel
theorem dX2_comeToFirstPlace_1 : decode cX2_comeToFirstPlace 1 = .ok (.iconst 0, 1) := by decide +kernel
theorem dX2_comeToFirstPlace_2 : decode cX2_comeToFirstPlace 2 = .ok (.invokevirtual 76, 3) := by decide +kernel
theorem dX2_comeToFirstPlace_5 : decode cX2_comeToFirstPlace 5 = .ok (.istore_n 1, 1) := by decide +kernel
theorem dX2_comeToFirstPlace_6 : decode cX2_comeToFirstPlace 6 = .ok (.iload_n 1, 1) := by decide +kernel
theorem dX2_comeToFirstPlace_7 : decode cX2_comeToFirstPlace 7 = .ok (.iconst 1, 1) := by decide +kernel
theorem dX2_comeToFirstPlace_8 : decode cX2_comeToFirstPlace 8 = .ok (.if_icmp .ne 5, 3) := by decide +kernel
theorem dX2_comeToFirstPlace_11 : decode cX2_comeToFirstPlace 11 = .ok (.iconst 0, 1) := by decide +kernel
theorem dX2_comeToFirstPlace_12 : decode cX2_comeToFirstPlace 12 = .ok (.ireturn, 1) := by decide +kernel
theorem dX2_comeToFirstPlace_13 : decode cX2_comeToFirstPlace 13 = .ok (.iload_n 1, 1) := by decide +kernel
theorem dX2_comeToFirstPlace_14 : decode cX2_comeToFirstPlace 14 = .ok (.iconst 2, 1) := by decide +kernel
theorem dX2_comeToFirstPlace_15 : decode cX2_comeToFirstPlace 15 = .ok (.if_icmp .ne 13, 3) := by decide +kernel
theorem dX2_comeToFirstPlace_18 : decode cX2_comeToFirstPlace 18 = .ok (.aload_n 0, 1) := by decide +kernel
theorem dX2_comeToFirstPlace_19 : decode cX2_comeToFirstPlace 19 = .ok (.dup, 1) := by decide +kernel
theorem dX2_comeToFirstPlace_20 : decode cX2_comeToFirstPlace 20 = .ok (.getfield 31, 3) := by decide +kernel
theorem dX2_comeToFirstPlace_23 : decode cX2_comeToFirstPlace 23 = .ok (.iconst 1, 1) := by decide +kernel
theorem dX2_comeToFirstPlace_24 : decode cX2_comeToFirstPlace 24 = .ok (.iadd, 1) := by decide +kernel
theorem dX2_comeToFirstPlace_25 : decode cX2_comeToFirstPlace 25 = .ok (.putfield 31, 3) := by decide +kernel
theorem dX2_comeToFirstPlace_28 : decode cX2_comeToFirstPlace 28 = .ok (.aload_n 0, 1) := by decide +kernel
theorem dX2_comeToFirstPlace_29 : decode cX2_comeToFirstPlace 29 = .ok (.iconst 0, 1) := by decide +kernel
theorem dX2_comeToFirstPlace_30 : decode cX2_comeToFirstPlace 30 = .ok (.iconst 1, 1) := by decide +kernel
theorem dX2_comeToFirstPlace_31 : decode cX2_comeToFirstPlace 31 = .ok (.invokevirtual 79, 3) := by decide +kernel
theorem dX2_comeToFirstPlace_34 : decode cX2_comeToFirstPlace 34 = .ok (.aload_n 0, 1) := by decide +kernel
theorem dX2_comeToFirstPlace_35 : decode cX2_comeToFirstPlace 35 = .ok (.dup, 1) := by decide +kernel
theorem dX2_comeToFirstPlace_36 : decode cX2_comeToFirstPlace 36 = .ok (.getfield 28, 3) := by decide +kernel
theorem dX2_comeToFirstPlace_39 : decode cX2_comeToFirstPlace 39 = .ok (.iconst 1, 1) := by decide +kernel
theorem dX2_comeToFirstPlace_40 : decode cX2_comeToFirstPlace 40 = .ok (.iadd, 1) := by decide +kernel
theorem dX2_comeToFirstPlace_41 : decode cX2_comeToFirstPlace 41 = .ok (.putfield 28, 3) := by decide +kernel
theorem dX2_comeToFirstPlace_44 : decode cX2_comeToFirstPlace 44 = .ok (.iconst 1, 1) := by decide +kernel
theorem dX2_comeToFirstPlace_45 : decode cX2_comeToFirstPlace 45 = .ok (.ireturn, 1) := by decide +kernel
set_option maxRecDepth 20000 in
theorem ggX2_goFromLastPlace_X2_sortAt : GoodIn wsX2_goFromLastPlace wsX2_sortAt := goodIn_r _ [7, 8, 9, 10, 11, 12, 17, 18, 19, 20, 21, 22, 23, 24] (by decide +kernel) (by decide +kernel)
set_option maxRecDepth 20000 in
theorem gX2_goFromLastPlace_X2_sortAt : GoodIn wsX2_goFromLastPlace (wsV RX2 76 RX2 yX2_sortAt wsX2_sortAt) := goodIn_app (goodIn_of _ (by decide +kernel)) ggX2_goFromLastPlace_X2_sortAt
set_option maxRecDepth 20000 in
theorem ggX2_goFromLastPlace_X2_put : GoodIn wsX2_goFromLastPlace wsX2_put := goodIn_r _ [16, 8, 9, 17, 18, 19, 20, 21, 22, 23, 24] (by decide +kernel) (by decide +kernel)
set_option maxRecDepth 20000 in
theorem gX2_goFromLastPlace_X2_put : GoodIn wsX2_goFromLastPlace (wsV RX2 79 RX2 yX2_put wsX2_put) := goodIn_app (goodIn_of _ (by decide +kernel)) ggX2_goFromLastPlace_X2_put
theorem dX2_goFromLastPlace_0 : decode cX2_goFromLastPlace 0 = .ok (.aload_n 0, 1) := by decide +kernel
theorem dX2_goFromLastPlace_1 : decode cX2_goFromLastPlace 1 = .ok (.aload_n 0, 1) := by decide +kernel
theorem dX2_goFromLastPlace_2 : decode cX2_goFromLastPlace 2 = .ok (.getfield 9, 3) := by decide +kernel
theorem dX2_goFromLastPlace_5 : decode cX2_goFromLastPlace 5 = .ok (.iconst 1, 1) := by decide +kernel
theorem dX2_goFromLastPlace_6 : decode cX2_goFromLastPlace 6 = .ok (.isub, 1) := by decide +kernel
theorem dX2_goFromLastPlace_7 : decode cX2_goFromLastPlace 7 = .ok (.invokevirtual 76, 3) := by decide +kernel
theorem dX2_goFromLastPlace_10 : decode cX2_goFromLastPlace 10 = .ok (.iconst 1, 1) := by decide +kernel
theorem dX2_goFromLastPlace_11 : decode cX2_goFromLastPlace 11 = .ok (.if_icmp .eq 5, 3) := by decide +kernel
theorem dX2_goFromLastPlace_14 : decode cX2_goFromLastPlace 14 = .ok (.iconst 0, 1) := by decide +kernel
theorem dX2_goFromLastPlace_15 : decode cX2_goFromLastPlace 15 = .ok (.ireturn, 1) := by decide +kernel
theorem dX2_goFromLastPlace_16 : decode cX2_goFromLastPlace 16 = .ok (.aload_n 0, 1) := by decide +kernel
theorem dX2_goFromLastPlace_17 : decode cX2_goFromLastPlace 17 = .ok (.aload_n 0, 1) := by decide +kernel
theorem dX2_goFromLastPlace_18 : decode cX2_goFromLastPlace 18 = .ok (.getfield 9, 3) := by decide +kernel
theorem dX2_goFromLastPlace_21 : decode cX2_goFromLastPlace 21 = .ok (.iconst 1, 1) := by decide +kernel
theorem dX2_goFromLastPlace_22 : decode cX2_goFromLastPlace 22 = .ok (.isub, 1) := by decide +kernel
theorem dX2_goFromLastPlace_23 : decode cX2_goFromLastPlace 23 = .ok (.iconst 0, 1) := by decide +kernel
theorem dX2_goFromLastPlace_24 : decode cX2_goFromLastPlace 24 = .ok (.invokevirtual 79, 3) := by decide +kernel
theorem dX2_goFromLastPlace_27 : decode cX2_goFromLastPlace 27 = .ok (.aload_n 0, 1) := by decide +kernel
theorem dX2_goFromLastPlace_28 : decode cX2_goFromLastPlace 28 = .ok (.dup, 1) := by decide +kernel
theorem dX2_goFromLastPlace_29 : decode cX2_goFromLastPlace 29 = .ok (.getfield 31, 3) := by decide +kernel
theorem dX2_goFromLastPlace_32 : decode cX2_goFromLastPlace 32 = .ok (.iconst 1, 1) := by decide +kernel
theorem dX2_goFromLastPlace_33 : decode cX2_goFromLastPlace 33 = .ok (.iadd, 1) := by decide +kernel
theorem dX2_goFromLastPlace_34 : decode cX2_goFromLastPlace 34 = .ok (.putfield 31, 3) := by decide +kernel
theorem dX2_goFromLastPlace_37 : decode cX2_goFromLastPlace 37 = .ok (.iconst 1, 1) := by decide +kernel
theorem dX2_goFromLastPlace_38 : decode cX2_goFromLastPlace 38 = .ok (.ireturn, 1) := by decide +kernel
set_option maxRecDepth 20000 in
theorem ggX2_stepAllAtOnce_X2_stepOpenRow : GoodIn wsX2_stepAllAtOnce wsX2_stepOpenRow := goodIn_r _ [7, 8, 9, 1, 10, 11, 12, 13, 14, 6, 15, 16, 2, 17, 18, 19, 20, 21, 22, 23, 24, 25, 26, 27, 32, 33, 34, 35, 36, 37, 38, 39] (by decide +kernel) (by decide +kernel)
set_option maxRecDepth 20000 in
theorem gX2_stepAllAtOnce_X2_stepOpenRow : GoodIn wsX2_stepAllAtOnce (wsV RX2 83 RX2 yX2_stepOpenRow wsX2_stepOpenRow) := goodIn_app (goodIn_of _ (by decide +kernel)) ggX2_stepAllAtOnce_X2_stepOpenRow
set_option maxRecDepth 20000 in
theorem ggX2_stepAllAtOnce_X2_stepRing : GoodIn wsX2_stepAllAtOnce wsX2_stepRing := goodIn_r _ [31, 9, 8, 1, 12, 13, 14, 6, 15, 16, 2, 17, 18, 19, 20, 21, 22, 23, 24, 25, 26, 27, 32, 33, 34, 35, 36, 37, 38, 39] (by decide +kernel) (by decide +kernel)
set_option maxRecDepth 20000 in
theorem gX2_stepAllAtOnce_X2_stepRing : GoodIn wsX2_stepAllAtOnce (wsV RX2 86 RX2 yX2_stepRing wsX2_stepRing) := goodIn_app (goodIn_of _ (by decide +kernel)) ggX2_stepAllAtOnce_X2_stepRing
theorem dX2_stepAllAtOnce_0 : decode cX2_stepAllAtOnce 0 = .ok (.aload_n 0, 1) := by decide +kernel
theorem dX2_stepAllAtOnce_1 : decode cX2_stepAllAtOnce 1 = .ok (.getfield 34, 3) := by decide +kernel
theorem dX2_stepAllAtOnce_4 : decode cX2_stepAllAtOnce 4 = .ok (.istore_n 2, 1) := by decide +kernel
theorem dX2_stepAllAtOnce_5 : decode cX2_stepAllAtOnce 5 = .ok (.iconst 0, 1) := by decide +kernel
theorem dX2_stepAllAtOnce_6 : decode cX2_stepAllAtOnce 6 = .ok (.istore_n 3, 1) := by decide +kernel
theorem dX2_stepAllAtOnce_7 : decode cX2_stepAllAtOnce 7 = .ok (.iload_n 3, 1) := by decide +kernel
theorem dX2_stepAllAtOnce_8 : decode cX2_stepAllAtOnce 8 = .ok (.iload_n 1, 1) := by decide +kernel
theorem dX2_stepAllAtOnce_9 : decode cX2_stepAllAtOnce 9 = .ok (.if_icmp .ge 27, 3) := by decide +kernel
theorem dX2_stepAllAtOnce_12 : decode cX2_stepAllAtOnce 12 = .ok (.aload_n 0, 1) := by decide +kernel
theorem dX2_stepAllAtOnce_13 : decode cX2_stepAllAtOnce 13 = .ok (.getfield 15, 3) := by decide +kernel
theorem dX2_stepAllAtOnce_16 : decode cX2_stepAllAtOnce 16 = .ok (.ifCond .eq 10, 3) := by decide +kernel
theorem dX2_stepAllAtOnce_19 : decode cX2_stepAllAtOnce 19 = .ok (.aload_n 0, 1) := by decide +kernel
theorem dX2_stepAllAtOnce_20 : decode cX2_stepAllAtOnce 20 = .ok (.invokevirtual 83, 3) := by decide +kernel
theorem dX2_stepAllAtOnce_23 : decode cX2_stepAllAtOnce 23 = .ok (.goto 7, 3) := by decide +kernel
theorem dX2_stepAllAtOnce_26 : decode cX2_stepAllAtOnce 26 = .ok (.aload_n 0, 1) := by decide +kernel
theorem dX2_stepAllAtOnce_27 : decode cX2_stepAllAtOnce 27 = .ok (.invokevirtual 86, 3) := by decide +kernel
theorem dX2_stepAllAtOnce_30 : decode cX2_stepAllAtOnce 30 = .ok (.iinc 3 1, 3) := by decide +kernel
theorem dX2_stepAllAtOnce_33 : decode cX2_stepAllAtOnce 33 = .ok (.goto (-26), 3) := by decide +kernel
theorem dX2_stepAllAtOnce_36 : decode cX2_stepAllAtOnce 36 = .ok (.aload_n 0, 1) := by decide +kernel
theorem dX2_stepAllAtOnce_37 : decode cX2_stepAllAtOnce 37 = .ok (.getfield 34, 3) := by decide +kernel
theorem dX2_stepAllAtOnce_40 : decode cX2_stepAllAtOnce 40 = .ok (.iload_n 2, 1) := by decide +kernel
theorem dX2_stepAllAtOnce_41 : decode cX2_stepAllAtOnce 41 = .ok (.isub, 1) := by decide +kernel
theorem dX2_stepAllAtOnce_42 : decode cX2_stepAllAtOnce 42 = .ok (.ireturn, 1) := by decide +kernel
set_option maxRecDepth 20000 in
theorem ggX2_stepOpenRow_X2_firstsWithFreeBehind : GoodIn wsX2_stepOpenRow wsX2_firstsWithFreeBehind := goodIn_r _ [10, 1, 11, 12, 2, 13, 14, 15, 9, 16, 24, 25, 26, 27, 28, 29, 30, 31] (by decide +kernel) (by decide +kernel)
set_option maxRecDepth 20000 in
theorem gX2_stepOpenRow_X2_firstsWithFreeBehind : GoodIn wsX2_stepOpenRow (wsV RX2 54 RX2 yX2_firstsWithFreeBehind wsX2_firstsWithFreeBehind) := goodIn_app (goodIn_of _ (by decide +kernel)) ggX2_stepOpenRow_X2_firstsWithFreeBehind
set_option maxRecDepth 20000 in
theorem ggX2_stepOpenRow_J6_bitCount_0f7a4 : GoodIn wsX2_stepOpenRow wsJ6_bitCount_0f7a4 := goodIn_r _ [20, 21, 22, 23] (by decide +kernel) (by decide +kernel)
set_option maxRecDepth 20000 in
theorem gX2_stepOpenRow_J6_bitCount_0f7a4 : GoodIn wsX2_stepOpenRow (va_wsS RX2 45 yJ6_bitCount_0f7a4 wsJ6_bitCount_0f7a4) := goodIn_app (goodIn_of _ (by decide +kernel)) ggX2_stepOpenRow_J6_bitCount_0f7a4
theorem dX2_stepOpenRow_0 : decode cX2_stepOpenRow 0 = .ok (.aload_n 0, 1) := by decide +kernel
theorem dX2_stepOpenRow_1 : decode cX2_stepOpenRow 1 = .ok (.invokevirtual 54, 3) := by decide +kernel
theorem dX2_stepOpenRow_4 : decode cX2_stepOpenRow 4 = .ok (.istore_n 1, 1) := by decide +kernel
theorem dX2_stepOpenRow_5 : decode cX2_stepOpenRow 5 = .ok (.aload_n 0, 1) := by decide +kernel
theorem dX2_stepOpenRow_6 : decode cX2_stepOpenRow 6 = .ok (.getfield 19, 3) := by decide +kernel
theorem dX2_stepOpenRow_9 : decode cX2_stepOpenRow 9 = .ok (.iconst (-1), 1) := by decide +kernel
theorem dX2_stepOpenRow_10 : decode cX2_stepOpenRow 10 = .ok (.ixor, 1) := by decide +kernel
theorem dX2_stepOpenRow_11 : decode cX2_stepOpenRow 11 = .ok (.iconst 1, 1) := by decide +kernel
theorem dX2_stepOpenRow_12 : decode cX2_stepOpenRow 12 = .ok (.iand, 1) := by decide +kernel
theorem dX2_stepOpenRow_13 : decode cX2_stepOpenRow 13 = .ok (.istore_n 2, 1) := by decide +kernel
theorem dX2_stepOpenRow_14 : decode cX2_stepOpenRow 14 = .ok (.aload_n 0, 1) := by decide +kernel
theorem dX2_stepOpenRow_15 : decode cX2_stepOpenRow 15 = .ok (.getfield 19, 3) := by decide +kernel
theorem dX2_stepOpenRow_18 : decode cX2_stepOpenRow 18 = .ok (.iconst 1, 1) := by decide +kernel
theorem dX2_stepOpenRow_19 : decode cX2_stepOpenRow 19 = .ok (.aload_n 0, 1) := by decide +kernel
theorem dX2_stepOpenRow_20 : decode cX2_stepOpenRow 20 = .ok (.getfield 9, 3) := by decide +kernel
theorem dX2_stepOpenRow_23 : decode cX2_stepOpenRow 23 = .ok (.iconst 1, 1) := by decide +kernel
theorem dX2_stepOpenRow_24 : decode cX2_stepOpenRow 24 = .ok (.isub, 1) := by decide +kernel
theorem dX2_stepOpenRow_25 : decode cX2_stepOpenRow 25 = .ok (.ishl, 1) := by decide +kernel
theorem dX2_stepOpenRow_26 : decode cX2_stepOpenRow 26 = .ok (.iand, 1) := by decide +kernel
theorem dX2_stepOpenRow_27 : decode cX2_stepOpenRow 27 = .ok (.istore_n 3, 1) := by decide +kernel
theorem dX2_stepOpenRow_28 : decode cX2_stepOpenRow 28 = .ok (.aload_n 0, 1) := by decide +kernel
theorem dX2_stepOpenRow_29 : decode cX2_stepOpenRow 29 = .ok (.aload_n 0, 1) := by decide +kernel
theorem dX2_stepOpenRow_30 : decode cX2_stepOpenRow 30 = .ok (.getfield 19, 3) := by decide +kernel
theorem dX2_stepOpenRow_33 : decode cX2_stepOpenRow 33 = .ok (.iload_n 1, 1) := by decide +kernel
theorem dX2_stepOpenRow_34 : decode cX2_stepOpenRow 34 = .ok (.iconst (-1), 1) := by decide +kernel
theorem dX2_stepOpenRow_35 : decode cX2_stepOpenRow 35 = .ok (.ixor, 1) := by decide +kernel
theorem dX2_stepOpenRow_36 : decode cX2_stepOpenRow 36 = .ok (.iand, 1) := by decide +kernel
theorem dX2_stepOpenRow_37 : decode cX2_stepOpenRow 37 = .ok (.iload_n 3, 1) := by decide +kernel
theorem dX2_stepOpenRow_38 : decode cX2_stepOpenRow 38 = .ok (.iconst (-1), 1) := by decide +kernel
theorem dX2_stepOpenRow_39 : decode cX2_stepOpenRow 39 = .ok (.ixor, 1) := by decide +kernel
theorem dX2_stepOpenRow_40 : decode cX2_stepOpenRow 40 = .ok (.iand, 1) := by decide +kernel
theorem dX2_stepOpenRow_41 : decode cX2_stepOpenRow 41 = .ok (.iload_n 1, 1) := by decide +kernel
theorem dX2_stepOpenRow_42 : decode cX2_stepOpenRow 42 = .ok (.iconst 1, 1) := by decide +kernel
theorem dX2_stepOpenRow_43 : decode cX2_stepOpenRow 43 = .ok (.ishl, 1) := by decide +kernel
theorem dX2_stepOpenRow_44 : decode cX2_stepOpenRow 44 = .ok (.ior, 1) := by decide +kernel
theorem dX2_stepOpenRow_45 : decode cX2_stepOpenRow 45 = .ok (.iload_n 2, 1) := by decide +kernel
theorem dX2_stepOpenRow_46 : decode cX2_stepOpenRow 46 = .ok (.ior, 1) := by decide +kernel
theorem dX2_stepOpenRow_47 : decode cX2_stepOpenRow 47 = .ok (.putfield 19, 3) := by decide +kernel
theorem dX2_stepOpenRow_50 : decode cX2_stepOpenRow 50 = .ok (.aload_n 0, 1) := by decide +kernel
theorem dX2_stepOpenRow_51 : decode cX2_stepOpenRow 51 = .ok (.dup, 1) := by decide +kernel
theorem dX2_stepOpenRow_52 : decode cX2_stepOpenRow 52 = .ok (.getfield 34, 3) := by decide +kernel
theorem dX2_stepOpenRow_55 : decode cX2_stepOpenRow 55 = .ok (.iload_n 1, 1) := by decide +kernel
theorem dX2_stepOpenRow_56 : decode cX2_stepOpenRow 56 = .ok (.invokestatic 45, 3) := by decide +kernel
theorem dX2_stepOpenRow_59 : decode cX2_stepOpenRow 59 = .ok (.iadd, 1) := by decide +kernel
theorem dX2_stepOpenRow_60 : decode cX2_stepOpenRow 60 = .ok (.putfield 34, 3) := by decide +kernel
theorem dX2_stepOpenRow_63 : decode cX2_stepOpenRow 63 = .ok (.aload_n 0, 1) := by decide +kernel
theorem dX2_stepOpenRow_64 : decode cX2_stepOpenRow 64 = .ok (.dup, 1) := by decide +kernel
theorem dX2_stepOpenRow_65 : decode cX2_stepOpenRow 65 = .ok (.getfield 28, 3) := by decide +kernel
theorem dX2_stepOpenRow_68 : decode cX2_stepOpenRow 68 = .ok (.iload_n 2, 1) := by decide +kernel
theorem dX2_stepOpenRow_69 : decode cX2_stepOpenRow 69 = .ok (.iadd, 1) := by decide +kernel
theorem dX2_stepOpenRow_70 : decode cX2_stepOpenRow 70 = .ok (.putfield 28, 3) := by decide +kernel
theorem dX2_stepOpenRow_73 : decode cX2_stepOpenRow 73 = .ok (.aload_n 0, 1) := by decide +kernel
theorem dX2_stepOpenRow_74 : decode cX2_stepOpenRow 74 = .ok (.dup, 1) := by decide +kernel
theorem dX2_stepOpenRow_75 : decode cX2_stepOpenRow 75 = .ok (.getfield 31, 3) := by decide +kernel
theorem dX2_stepOpenRow_78 : decode cX2_stepOpenRow 78 = .ok (.iload_n 3, 1) := by decide +kernel
theorem dX2_stepOpenRow_79 : decode cX2_stepOpenRow 79 = .ok (.invokestatic 45, 3) := by decide +kernel
theorem dX2_stepOpenRow_82 : decode cX2_stepOpenRow 82 = .ok (.iadd, 1) := by decide +kernel
theorem dX2_stepOpenRow_83 : decode cX2_stepOpenRow 83 = .ok (.putfield 31, 3) := by decide +kernel
theorem dX2_stepOpenRow_86 : decode cX2_stepOpenRow 86 = .ok (.return_, 1) := by decide +kernel
set_option maxRecDepth 20000 in
theorem ggX2_stepRing_X2_firstsWithFreeBehind : GoodIn wsX2_stepRing wsX2_firstsWithFreeBehind := goodIn_r _ [8, 2, 9, 10, 1, 11, 12, 13, 7, 14, 22, 23, 24, 25, 26, 27, 28, 29] (by decide +kernel) (by decide +kernel)
set_option maxRecDepth 20000 in
theorem gX2_stepRing_X2_firstsWithFreeBehind : GoodIn wsX2_stepRing (wsV RX2 54 RX2 yX2_firstsWithFreeBehind wsX2_firstsWithFreeBehind) := goodIn_app (goodIn_of _ (by decide +kernel)) ggX2_stepRing_X2_firstsWithFreeBehind
set_option maxRecDepth 20000 in
theorem ggX2_stepRing_X2_allPlaces : GoodIn wsX2_stepRing wsX2_allPlaces := goodIn_r _ [14, 1, 22, 23, 24, 25, 26, 27, 28, 29] (by decide +kernel) (by decide +kernel)
set_option maxRecDepth 20000 in
theorem gX2_stepRing_X2_allPlaces : GoodIn wsX2_stepRing (wsV RX2 89 RX2 yX2_allPlaces wsX2_allPlaces) := goodIn_app (goodIn_of _ (by decide +kernel)) ggX2_stepRing_X2_allPlaces
set_option maxRecDepth 20000 in
theorem ggX2_stepRing_J6_bitCount_0f7a4 : GoodIn wsX2_stepRing wsJ6_bitCount_0f7a4 := goodIn_r _ [18, 19, 20, 21] (by decide +kernel) (by decide +kernel)
set_option maxRecDepth 20000 in
theorem gX2_stepRing_J6_bitCount_0f7a4 : GoodIn wsX2_stepRing (va_wsS RX2 45 yJ6_bitCount_0f7a4 wsJ6_bitCount_0f7a4) := goodIn_app (goodIn_of _ (by decide +kernel)) ggX2_stepRing_J6_bitCount_0f7a4
theorem dX2_stepRing_0 : decode cX2_stepRing 0 = .ok (.aload_n 0, 1) := by decide +kernel
theorem dX2_stepRing_1 : decode cX2_stepRing 1 = .ok (.invokevirtual 54, 3) := by decide +kernel
theorem dX2_stepRing_4 : decode cX2_stepRing 4 = .ok (.istore_n 1, 1) := by decide +kernel
theorem dX2_stepRing_5 : decode cX2_stepRing 5 = .ok (.iload_n 1, 1) := by decide +kernel
theorem dX2_stepRing_6 : decode cX2_stepRing 6 = .ok (.aload_n 0, 1) := by decide +kernel
theorem dX2_stepRing_7 : decode cX2_stepRing 7 = .ok (.getfield 9, 3) := by decide +kernel
theorem dX2_stepRing_10 : decode cX2_stepRing 10 = .ok (.iconst 1, 1) := by decide +kernel
theorem dX2_stepRing_11 : decode cX2_stepRing 11 = .ok (.isub, 1) := by decide +kernel
theorem dX2_stepRing_12 : decode cX2_stepRing 12 = .ok (.ishr, 1) := by decide +kernel
theorem dX2_stepRing_13 : decode cX2_stepRing 13 = .ok (.istore_n 2, 1) := by decide +kernel
theorem dX2_stepRing_14 : decode cX2_stepRing 14 = .ok (.iload_n 1, 1) := by decide +kernel
theorem dX2_stepRing_15 : decode cX2_stepRing 15 = .ok (.iconst 1, 1) := by decide +kernel
theorem dX2_stepRing_16 : decode cX2_stepRing 16 = .ok (.ishl, 1) := by decide +kernel
theorem dX2_stepRing_17 : decode cX2_stepRing 17 = .ok (.aload_n 0, 1) := by decide +kernel
theorem dX2_stepRing_18 : decode cX2_stepRing 18 = .ok (.invokevirtual 89, 3) := by decide +kernel
theorem dX2_stepRing_21 : decode cX2_stepRing 21 = .ok (.iand, 1) := by decide +kernel
theorem dX2_stepRing_22 : decode cX2_stepRing 22 = .ok (.istore_n 3, 1) := by decide +kernel
theorem dX2_stepRing_23 : decode cX2_stepRing 23 = .ok (.aload_n 0, 1) := by decide +kernel
theorem dX2_stepRing_24 : decode cX2_stepRing 24 = .ok (.aload_n 0, 1) := by decide +kernel
theorem dX2_stepRing_25 : decode cX2_stepRing 25 = .ok (.getfield 19, 3) := by decide +kernel
theorem dX2_stepRing_28 : decode cX2_stepRing 28 = .ok (.iload_n 1, 1) := by decide +kernel
theorem dX2_stepRing_29 : decode cX2_stepRing 29 = .ok (.iconst (-1), 1) := by decide +kernel
theorem dX2_stepRing_30 : decode cX2_stepRing 30 = .ok (.ixor, 1) := by decide +kernel
theorem dX2_stepRing_31 : decode cX2_stepRing 31 = .ok (.iand, 1) := by decide +kernel
theorem dX2_stepRing_32 : decode cX2_stepRing 32 = .ok (.iload_n 3, 1) := by decide +kernel
theorem dX2_stepRing_33 : decode cX2_stepRing 33 = .ok (.ior, 1) := by decide +kernel
theorem dX2_stepRing_34 : decode cX2_stepRing 34 = .ok (.iload_n 2, 1) := by decide +kernel
theorem dX2_stepRing_35 : decode cX2_stepRing 35 = .ok (.ior, 1) := by decide +kernel
theorem dX2_stepRing_36 : decode cX2_stepRing 36 = .ok (.putfield 19, 3) := by decide +kernel
theorem dX2_stepRing_39 : decode cX2_stepRing 39 = .ok (.aload_n 0, 1) := by decide +kernel
theorem dX2_stepRing_40 : decode cX2_stepRing 40 = .ok (.dup, 1) := by decide +kernel
theorem dX2_stepRing_41 : decode cX2_stepRing 41 = .ok (.getfield 34, 3) := by decide +kernel
theorem dX2_stepRing_44 : decode cX2_stepRing 44 = .ok (.iload_n 1, 1) := by decide +kernel
theorem dX2_stepRing_45 : decode cX2_stepRing 45 = .ok (.invokestatic 45, 3) := by decide +kernel
theorem dX2_stepRing_48 : decode cX2_stepRing 48 = .ok (.iadd, 1) := by decide +kernel
theorem dX2_stepRing_49 : decode cX2_stepRing 49 = .ok (.putfield 34, 3) := by decide +kernel
theorem dX2_stepRing_52 : decode cX2_stepRing 52 = .ok (.return_, 1) := by decide +kernel
set_option maxRecDepth 20000 in
theorem ggX2_firstsWithFreeBehind_X2_allPlaces : GoodIn wsX2_firstsWithFreeBehind wsX2_allPlaces := goodIn_r _ [9, 4, 10, 11, 12, 13, 14, 15, 16, 17] (by decide +kernel) (by decide +kernel)
set_option maxRecDepth 20000 in
theorem gX2_firstsWithFreeBehind_X2_allPlaces : GoodIn wsX2_firstsWithFreeBehind (wsV RX2 89 RX2 yX2_allPlaces wsX2_allPlaces) := goodIn_app (goodIn_of _ (by decide +kernel)) ggX2_firstsWithFreeBehind_X2_allPlaces
theorem dX2_firstsWithFreeBehind_0 : decode cX2_firstsWithFreeBehind 0 = .ok (.aload_n 0, 1) := by decide +kernel
theorem dX2_firstsWithFreeBehind_1 : decode cX2_firstsWithFreeBehind 1 = .ok (.invokevirtual 89, 3) := by decide +kernel
theorem dX2_firstsWithFreeBehind_4 : decode cX2_firstsWithFreeBehind 4 = .ok (.aload_n 0, 1) := by decide +kernel
theorem dX2_firstsWithFreeBehind_5 : decode cX2_firstsWithFreeBehind 5 = .ok (.getfield 19, 3) := by decide +kernel
theorem dX2_firstsWithFreeBehind_8 : decode cX2_firstsWithFreeBehind 8 = .ok (.iconst (-1), 1) := by decide +kernel
theorem dX2_firstsWithFreeBehind_9 : decode cX2_firstsWithFreeBehind 9 = .ok (.ixor, 1) := by decide +kernel
theorem dX2_firstsWithFreeBehind_10 : decode cX2_firstsWithFreeBehind 10 = .ok (.iand, 1) := by decide +kernel
theorem dX2_firstsWithFreeBehind_11 : decode cX2_firstsWithFreeBehind 11 = .ok (.aload_n 0, 1) := by decide +kernel
theorem dX2_firstsWithFreeBehind_12 : decode cX2_firstsWithFreeBehind 12 = .ok (.getfield 22, 3) := by decide +kernel
theorem dX2_firstsWithFreeBehind_15 : decode cX2_firstsWithFreeBehind 15 = .ok (.iconst (-1), 1) := by decide +kernel
theorem dX2_firstsWithFreeBehind_16 : decode cX2_firstsWithFreeBehind 16 = .ok (.ixor, 1) := by decide +kernel
theorem dX2_firstsWithFreeBehind_17 : decode cX2_firstsWithFreeBehind 17 = .ok (.iand, 1) := by decide +kernel
theorem dX2_firstsWithFreeBehind_18 : decode cX2_firstsWithFreeBehind 18 = .ok (.istore_n 1, 1) := by decide +kernel
theorem dX2_firstsWithFreeBehind_19 : decode cX2_firstsWithFreeBehind 19 = .ok (.aload_n 0, 1) := by decide +kernel
theorem dX2_firstsWithFreeBehind_20 : decode cX2_firstsWithFreeBehind 20 = .ok (.getfield 15, 3) := by decide +kernel
theorem dX2_firstsWithFreeBehind_23 : decode cX2_firstsWithFreeBehind 23 = .ok (.ifCond .eq 7, 3) := by decide +kernel
theorem dX2_firstsWithFreeBehind_26 : decode cX2_firstsWithFreeBehind 26 = .ok (.iconst 0, 1) := by decide +kernel
theorem dX2_firstsWithFreeBehind_27 : decode cX2_firstsWithFreeBehind 27 = .ok (.goto 13, 3) := by decide +kernel
theorem dX2_firstsWithFreeBehind_30 : decode cX2_firstsWithFreeBehind 30 = .ok (.iload_n 1, 1) := by decide +kernel
theorem dX2_firstsWithFreeBehind_31 : decode cX2_firstsWithFreeBehind 31 = .ok (.iconst 1, 1) := by decide +kernel
theorem dX2_firstsWithFreeBehind_32 : decode cX2_firstsWithFreeBehind 32 = .ok (.iand, 1) := by decide +kernel
theorem dX2_firstsWithFreeBehind_33 : decode cX2_firstsWithFreeBehind 33 = .ok (.aload_n 0, 1) := by decide +kernel
theorem dX2_firstsWithFreeBehind_34 : decode cX2_firstsWithFreeBehind 34 = .ok (.getfield 9, 3) := by decide +kernel
theorem dX2_firstsWithFreeBehind_37 : decode cX2_firstsWithFreeBehind 37 = .ok (.iconst 1, 1) := by decide +kernel
theorem dX2_firstsWithFreeBehind_38 : decode cX2_firstsWithFreeBehind 38 = .ok (.isub, 1) := by decide +kernel
theorem dX2_firstsWithFreeBehind_39 : decode cX2_firstsWithFreeBehind 39 = .ok (.ishl, 1) := by decide +kernel
theorem dX2_firstsWithFreeBehind_40 : decode cX2_firstsWithFreeBehind 40 = .ok (.istore_n 2, 1) := by decide +kernel
theorem dX2_firstsWithFreeBehind_41 : decode cX2_firstsWithFreeBehind 41 = .ok (.aload_n 0, 1) := by decide +kernel
theorem dX2_firstsWithFreeBehind_42 : decode cX2_firstsWithFreeBehind 42 = .ok (.getfield 19, 3) := by decide +kernel
theorem dX2_firstsWithFreeBehind_45 : decode cX2_firstsWithFreeBehind 45 = .ok (.iload_n 1, 1) := by decide +kernel
theorem dX2_firstsWithFreeBehind_46 : decode cX2_firstsWithFreeBehind 46 = .ok (.iconst 1, 1) := by decide +kernel
theorem dX2_firstsWithFreeBehind_47 : decode cX2_firstsWithFreeBehind 47 = .ok (.ishr, 1) := by decide +kernel
theorem dX2_firstsWithFreeBehind_48 : decode cX2_firstsWithFreeBehind 48 = .ok (.iload_n 2, 1) := by decide +kernel
theorem dX2_firstsWithFreeBehind_49 : decode cX2_firstsWithFreeBehind 49 = .ok (.ior, 1) := by decide +kernel
theorem dX2_firstsWithFreeBehind_50 : decode cX2_firstsWithFreeBehind 50 = .ok (.iand, 1) := by decide +kernel
theorem dX2_firstsWithFreeBehind_51 : decode cX2_firstsWithFreeBehind 51 = .ok (.ireturn, 1) := by decide +kernel
theorem dX2_allPlaces_0 : decode cX2_allPlaces 0 = .ok (.iconst 1, 1) := by decide +kernel
theorem dX2_allPlaces_1 : decode cX2_allPlaces 1 = .ok (.aload_n 0, 1) := by decide +kernel
theorem dX2_allPlaces_2 : decode cX2_allPlaces 2 = .ok (.getfield 9, 3) := by decide +kernel
theorem dX2_allPlaces_5 : decode cX2_allPlaces 5 = .ok (.ishl, 1) := by decide +kernel
theorem dX2_allPlaces_6 : decode cX2_allPlaces 6 = .ok (.iconst 1, 1) := by decide +kernel
theorem dX2_allPlaces_7 : decode cX2_allPlaces 7 = .ok (.isub, 1) := by decide +kernel
theorem dX2_allPlaces_8 : decode cX2_allPlaces 8 = .ok (.ireturn, 1) := by decide +kernel
set_option maxRecDepth 20000 in
theorem ggX3_init_X0_init : GoodIn wsX3_init wsX0_init := goodIn_r _ [14, 15, 2, 3, 16, 17, 18, 19, 20, 21, 6, 22, 23, 24, 25, 26, 27, 28, 29, 30, 31, 32, 33, 34, 35, 36, 37, 38, 39, 40, 41, 42, 43, 47, 48, 49, 50, 51] (by decide +kernel) (by decide +kernel)
set_option maxRecDepth 20000 in
theorem gX3_init_X0_init : GoodIn wsX3_init (wsX0_init) := ggX3_init_X0_init
set_option maxRecDepth 20000 in
theorem ggX3_init_X2_init : GoodIn wsX3_init wsX2_init := goodIn_r _ [45, 46, 2, 3] (by decide +kernel) (by decide +kernel)
set_option maxRecDepth 20000 in
theorem gX3_init_X2_init_n18 : GoodIn wsX3_init (wsX2_init) := ggX3_init_X2_init
theorem dX3_init_0 : decode cX3_init 0 = .ok (.aload_n 0, 1) := by decide +kernel
theorem dX3_init_1 : decode cX3_init 1 = .ok (.invokespecial 1, 3) := by decide +kernel
theorem dX3_init_4 : decode cX3_init 4 = .ok (.aload_n 0, 1) := by decide +kernel
theorem dX3_init_5 : decode cX3_init 5 = .ok (.new 7, 3) := by decide +kernel
theorem dX3_init_8 : decode cX3_init 8 = .ok (.dup, 1) := by decide +kernel
theorem dX3_init_9 : decode cX3_init 9 = .ok (.invokespecial 9, 3) := by decide +kernel
theorem dX3_init_12 : decode cX3_init 12 = .ok (.putfield 10, 3) := by decide +kernel
theorem dX3_init_15 : decode cX3_init 15 = .ok (.aload_n 0, 1) := by decide +kernel
theorem dX3_init_16 : decode cX3_init 16 = .ok (.new 16, 3) := by decide +kernel
theorem dX3_init_19 : decode cX3_init 19 = .ok (.dup, 1) := by decide +kernel
theorem dX3_init_20 : decode cX3_init 20 = .ok (.invokespecial 18, 3) := by decide +kernel
theorem dX3_init_23 : decode cX3_init 23 = .ok (.putfield 19, 3) := by decide +kernel
theorem dX3_init_26 : decode cX3_init 26 = .ok (.return_, 1) := by decide +kernel
set_option maxRecDepth 20000 in
theorem ggX3_row_X3_isWithin : GoodIn wsX3_row wsX3_isWithin := goodIn_r _ [5] (by decide +kernel) (by decide +kernel)
set_option maxRecDepth 20000 in
theorem gX3_row_X3_isWithin : GoodIn wsX3_row (va_wsS RX3 23 yX3_isWithin wsX3_isWithin) := goodIn_app (goodIn_of _ (by decide +kernel)) ggX3_row_X3_isWithin
set_option maxRecDepth 20000 in
theorem ggX3_row_X0_become : GoodIn wsX3_row wsX0_become := goodIn_r _ [10, 11, 12, 13, 14, 15, 16, 9, 17, 18, 19, 20, 21, 22, 23, 24, 4, 25, 26, 27, 28, 29, 30, 31, 32, 39, 40, 41, 42, 43] (by decide +kernel) (by decide +kernel)
set_option maxRecDepth 20000 in
theorem gX3_row_X0_become : GoodIn wsX3_row (wsV RX3 27 RX0 yX0_become wsX0_become) := goodIn_app (goodIn_of _ (by decide +kernel)) ggX3_row_X0_become
set_option maxRecDepth 20000 in
theorem ggX3_row_X0_countStates : GoodIn wsX3_row wsX0_countStates := goodIn_r _ [36, 11, 39, 40, 41, 42, 43] (by decide +kernel) (by decide +kernel)
set_option maxRecDepth 20000 in
theorem gX3_row_X0_countStates : GoodIn wsX3_row (wsV RX3 31 RX0 yX0_countStates wsX0_countStates) := goodIn_app (goodIn_of _ (by decide +kernel)) ggX3_row_X0_countStates
theorem dX3_row_0 : decode cX3_row 0 = .ok (.iload_n 1, 1) := by decide +kernel
theorem dX3_row_1 : decode cX3_row 1 = .ok (.iconst 1, 1) := by decide +kernel
theorem dX3_row_2 : decode cX3_row 2 = .ok (.bipush 8, 2) := by decide +kernel
theorem dX3_row_4 : decode cX3_row 4 = .ok (.invokestatic 23, 3) := by decide +kernel
theorem dX3_row_7 : decode cX3_row 7 = .ok (.ifCond .ne 5, 3) := by decide +kernel
theorem dX3_row_10 : decode cX3_row 10 = .ok (.iconst (-1), 1) := by decide +kernel
theorem dX3_row_11 : decode cX3_row 11 = .ok (.ireturn, 1) := by decide +kernel
theorem dX3_row_12 : decode cX3_row 12 = .ok (.iload_n 2, 1) := by decide +kernel
theorem dX3_row_13 : decode cX3_row 13 = .ok (.iconst 1, 1) := by decide +kernel
theorem dX3_row_14 : decode cX3_row 14 = .ok (.bipush 9, 2) := by decide +kernel
theorem dX3_row_16 : decode cX3_row 16 = .ok (.invokestatic 23, 3) := by decide +kernel
theorem dX3_row_19 : decode cX3_row 19 = .ok (.ifCond .eq 13, 3) := by decide +kernel
theorem dX3_row_22 : decode cX3_row 22 = .ok (.iload_n 3, 1) := by decide +kernel
theorem dX3_row_23 : decode cX3_row 23 = .ok (.iconst 1, 1) := by decide +kernel
theorem dX3_row_24 : decode cX3_row 24 = .ok (.bipush 9, 2) := by decide +kernel
theorem dX3_row_26 : decode cX3_row 26 = .ok (.invokestatic 23, 3) := by decide +kernel
theorem dX3_row_29 : decode cX3_row 29 = .ok (.ifCond .ne 5, 3) := by decide +kernel
theorem dX3_row_32 : decode cX3_row 32 = .ok (.iconst (-1), 1) := by decide +kernel
theorem dX3_row_33 : decode cX3_row 33 = .ok (.ireturn, 1) := by decide +kernel
theorem dX3_row_34 : decode cX3_row 34 = .ok (.aload_n 0, 1) := by decide +kernel
theorem dX3_row_35 : decode cX3_row 35 = .ok (.getfield 10, 3) := by decide +kernel
theorem dX3_row_38 : decode cX3_row 38 = .ok (.iload_n 1, 1) := by decide +kernel
theorem dX3_row_39 : decode cX3_row 39 = .ok (.iload_n 2, 1) := by decide +kernel
theorem dX3_row_40 : decode cX3_row 40 = .ok (.iload_n 3, 1) := by decide +kernel
theorem dX3_row_41 : decode cX3_row 41 = .ok (.invokevirtual 27, 3) := by decide +kernel
theorem dX3_row_44 : decode cX3_row 44 = .ok (.aload_n 0, 1) := by decide +kernel
theorem dX3_row_45 : decode cX3_row 45 = .ok (.getfield 10, 3) := by decide +kernel
theorem dX3_row_48 : decode cX3_row 48 = .ok (.invokevirtual 31, 3) := by decide +kernel
theorem dX3_row_51 : decode cX3_row 51 = .ok (.ireturn, 1) := by decide +kernel
set_option maxRecDepth 20000 in
theorem ggX3_weight_X0_hasState : GoodIn wsX3_weight wsX0_hasState := goodIn_r _ [7, 8, 9, 10, 6, 11, 12, 24, 25, 26, 27, 28] (by decide +kernel) (by decide +kernel)
set_option maxRecDepth 20000 in
theorem gX3_weight_X0_hasState : GoodIn wsX3_weight (wsV RX3 35 RX0 yX0_hasState wsX0_hasState) := goodIn_app (goodIn_of _ (by decide +kernel)) ggX3_weight_X0_hasState
set_option maxRecDepth 20000 in
theorem ggX3_weight_X0_weightOf : GoodIn wsX3_weight wsX0_weightOf := goodIn_r _ [16, 12, 17, 18, 19, 6, 20, 21, 24, 25, 26, 27, 28] (by decide +kernel) (by decide +kernel)
set_option maxRecDepth 20000 in
theorem gX3_weight_X0_weightOf : GoodIn wsX3_weight (wsV RX3 39 RX0 yX0_weightOf wsX0_weightOf) := goodIn_app (goodIn_of _ (by decide +kernel)) ggX3_weight_X0_weightOf
theorem dX3_weight_0 : decode cX3_weight 0 = .ok (.aload_n 0, 1) := by decide +kernel
theorem dX3_weight_1 : decode cX3_weight 1 = .ok (.getfield 10, 3) := by decide +kernel
theorem dX3_weight_4 : decode cX3_weight 4 = .ok (.iload_n 1, 1) := by decide +kernel
theorem dX3_weight_5 : decode cX3_weight 5 = .ok (.invokevirtual 35, 3) := by decide +kernel
theorem dX3_weight_8 : decode cX3_weight 8 = .ok (.ifCond .eq 14, 3) := by decide +kernel
theorem dX3_weight_11 : decode cX3_weight 11 = .ok (.aload_n 0, 1) := by decide +kernel
theorem dX3_weight_12 : decode cX3_weight 12 = .ok (.getfield 10, 3) := by decide +kernel
theorem dX3_weight_15 : decode cX3_weight 15 = .ok (.iload_n 1, 1) := by decide +kernel
theorem dX3_weight_16 : decode cX3_weight 16 = .ok (.invokevirtual 39, 3) := by decide +kernel
theorem dX3_weight_19 : decode cX3_weight 19 = .ok (.goto 6, 3) := by decide +kernel
theorem dX3_weight_22 : decode cX3_weight 22 = .ok (.ldc2_w 43, 3) := by decide +kernel
theorem dX3_weight_25 : decode cX3_weight 25 = .ok (.lreturn, 1) := by decide +kernel
set_option maxRecDepth 20000 in
theorem ggX3_sum_X3_isWithin : GoodIn wsX3_sum wsX3_isWithin := goodIn_r _ [6] (by decide +kernel) (by decide +kernel)
set_option maxRecDepth 20000 in
theorem gX3_sum_X3_isWithin : GoodIn wsX3_sum (va_wsS RX3 23 yX3_isWithin wsX3_isWithin) := goodIn_app (goodIn_of _ (by decide +kernel)) ggX3_sum_X3_isWithin
set_option maxRecDepth 20000 in
theorem ggX3_sum_X0_sumOf : GoodIn wsX3_sum wsX0_sumOf := goodIn_r _ [11, 12, 15, 16, 17, 18, 19] (by decide +kernel) (by decide +kernel)
set_option maxRecDepth 20000 in
theorem gX3_sum_X0_sumOf : GoodIn wsX3_sum (wsV RX3 45 RX0 yX0_sumOf wsX0_sumOf) := goodIn_app (goodIn_of _ (by decide +kernel)) ggX3_sum_X0_sumOf
theorem dX3_sum_0 : decode cX3_sum 0 = .ok (.iload_n 1, 1) := by decide +kernel
theorem dX3_sum_1 : decode cX3_sum 1 = .ok (.iconst 0, 1) := by decide +kernel
theorem dX3_sum_2 : decode cX3_sum 2 = .ok (.bipush 8, 2) := by decide +kernel
theorem dX3_sum_4 : decode cX3_sum 4 = .ok (.invokestatic 23, 3) := by decide +kernel
theorem dX3_sum_7 : decode cX3_sum 7 = .ok (.ifCond .eq 14, 3) := by decide +kernel
theorem dX3_sum_10 : decode cX3_sum 10 = .ok (.aload_n 0, 1) := by decide +kernel
theorem dX3_sum_11 : decode cX3_sum 11 = .ok (.getfield 10, 3) := by decide +kernel
theorem dX3_sum_14 : decode cX3_sum 14 = .ok (.iload_n 1, 1) := by decide +kernel
theorem dX3_sum_15 : decode cX3_sum 15 = .ok (.invokevirtual 45, 3) := by decide +kernel
theorem dX3_sum_18 : decode cX3_sum 18 = .ok (.goto 6, 3) := by decide +kernel
theorem dX3_sum_21 : decode cX3_sum 21 = .ok (.ldc2_w 43, 3) := by decide +kernel
theorem dX3_sum_24 : decode cX3_sum 24 = .ok (.lreturn, 1) := by decide +kernel
set_option maxRecDepth 20000 in
theorem ggX3_chance_X0_hasState : GoodIn wsX3_chance wsX0_hasState := goodIn_r _ [7, 8, 9, 10, 6, 11, 12, 43, 44, 45, 46, 47] (by decide +kernel) (by decide +kernel)
set_option maxRecDepth 20000 in
theorem gX3_chance_X0_hasState : GoodIn wsX3_chance (wsV RX3 35 RX0 yX0_hasState wsX0_hasState) := goodIn_app (goodIn_of _ (by decide +kernel)) ggX3_chance_X0_hasState
set_option maxRecDepth 20000 in
theorem ggX3_chance_X3_isWithin : GoodIn wsX3_chance wsX3_isWithin := goodIn_r _ [16] (by decide +kernel) (by decide +kernel)
set_option maxRecDepth 20000 in
theorem gX3_chance_X3_isWithin : GoodIn wsX3_chance (va_wsS RX3 23 yX3_isWithin wsX3_isWithin) := goodIn_app (goodIn_of _ (by decide +kernel)) ggX3_chance_X3_isWithin
set_option maxRecDepth 20000 in
theorem ggX3_chance_X0_weightOf : GoodIn wsX3_chance wsX0_weightOf := goodIn_r _ [20, 12, 21, 22, 23, 6, 24, 25, 43, 44, 45, 46, 47] (by decide +kernel) (by decide +kernel)
set_option maxRecDepth 20000 in
theorem gX3_chance_X0_weightOf : GoodIn wsX3_chance (wsV RX3 39 RX0 yX0_weightOf wsX0_weightOf) := goodIn_app (goodIn_of _ (by decide +kernel)) ggX3_chance_X0_weightOf
set_option maxRecDepth 20000 in
theorem ggX3_chance_X0_countPlaces : GoodIn wsX3_chance wsX0_countPlaces := goodIn_r _ [29, 12, 43, 44, 45, 46, 47] (by decide +kernel) (by decide +kernel)
set_option maxRecDepth 20000 in
theorem gX3_chance_X0_countPlaces : GoodIn wsX3_chance (wsV RX3 48 RX0 yX0_countPlaces wsX0_countPlaces) := goodIn_app (goodIn_of _ (by decide +kernel)) ggX3_chance_X0_countPlaces
set_option maxRecDepth 20000 in
theorem ggX3_chance_X0_sumOf : GoodIn wsX3_chance wsX0_sumOf := goodIn_r _ [33, 34, 43, 44, 45, 46, 47] (by decide +kernel) (by decide +kernel)
set_option maxRecDepth 20000 in
theorem gX3_chance_X0_sumOf : GoodIn wsX3_chance (wsV RX3 45 RX0 yX0_sumOf wsX0_sumOf) := goodIn_app (goodIn_of _ (by decide +kernel)) ggX3_chance_X0_sumOf
set_option maxRecDepth 20000 in
theorem ggX3_chance_X3_partOfFraction : GoodIn wsX3_chance wsX3_partOfFraction := goodIn_r _ [37, 38, 39, 15, 40] (by decide +kernel) (by decide +kernel)
set_option maxRecDepth 20000 in
theorem gX3_chance_X3_partOfFraction : GoodIn wsX3_chance (va_wsS RX3 51 yX3_partOfFraction wsX3_partOfFraction) := goodIn_app (goodIn_of _ (by decide +kernel)) ggX3_chance_X3_partOfFraction
theorem dX3_chance_0 : decode cX3_chance 0 = .ok (.aload_n 0, 1) := by decide +kernel
theorem dX3_chance_1 : decode cX3_chance 1 = .ok (.getfield 10, 3) := by decide +kernel
theorem dX3_chance_4 : decode cX3_chance 4 = .ok (.iload_n 1, 1) := by decide +kernel
theorem dX3_chance_5 : decode cX3_chance 5 = .ok (.invokevirtual 35, 3) := by decide +kernel
theorem dX3_chance_8 : decode cX3_chance 8 = .ok (.ifCond .eq 12, 3) := by decide +kernel
theorem dX3_chance_11 : decode cX3_chance 11 = .ok (.iload_n 2, 1) := by decide +kernel
theorem dX3_chance_12 : decode cX3_chance 12 = .ok (.iconst 0, 1) := by decide +kernel
theorem dX3_chance_13 : decode cX3_chance 13 = .ok (.iconst 1, 1) := by decide +kernel
theorem dX3_chance_14 : decode cX3_chance 14 = .ok (.invokestatic 23, 3) := by decide +kernel
theorem dX3_chance_17 : decode cX3_chance 17 = .ok (.ifCond .ne 7, 3) := by decide +kernel
theorem dX3_chance_20 : decode cX3_chance 20 = .ok (.ldc2_w 43, 3) := by decide +kernel
theorem dX3_chance_23 : decode cX3_chance 23 = .ok (.lreturn, 1) := by decide +kernel
theorem dX3_chance_24 : decode cX3_chance 24 = .ok (.aload_n 0, 1) := by decide +kernel
theorem dX3_chance_25 : decode cX3_chance 25 = .ok (.getfield 10, 3) := by decide +kernel
theorem dX3_chance_28 : decode cX3_chance 28 = .ok (.iload_n 1, 1) := by decide +kernel
theorem dX3_chance_29 : decode cX3_chance 29 = .ok (.invokevirtual 39, 3) := by decide +kernel
theorem dX3_chance_32 : decode cX3_chance 32 = .ok (.aload_n 0, 1) := by decide +kernel
theorem dX3_chance_33 : decode cX3_chance 33 = .ok (.getfield 10, 3) := by decide +kernel
theorem dX3_chance_36 : decode cX3_chance 36 = .ok (.aload_n 0, 1) := by decide +kernel
theorem dX3_chance_37 : decode cX3_chance 37 = .ok (.getfield 10, 3) := by decide +kernel
theorem dX3_chance_40 : decode cX3_chance 40 = .ok (.invokevirtual 48, 3) := by decide +kernel
theorem dX3_chance_43 : decode cX3_chance 43 = .ok (.invokevirtual 45, 3) := by decide +kernel
theorem dX3_chance_46 : decode cX3_chance 46 = .ok (.iload_n 2, 1) := by decide +kernel
theorem dX3_chance_47 : decode cX3_chance 47 = .ok (.invokestatic 51, 3) := by decide +kernel
theorem dX3_chance_50 : decode cX3_chance 50 = .ok (.lreturn, 1) := by decide +kernel
set_option maxRecDepth 20000 in
theorem ggX3_current_X3_isWithin : GoodIn wsX3_current wsX3_isWithin := goodIn_r _ [6] (by decide +kernel) (by decide +kernel)
set_option maxRecDepth 20000 in
theorem gX3_current_X3_isWithin : GoodIn wsX3_current (va_wsS RX3 23 yX3_isWithin wsX3_isWithin) := goodIn_app (goodIn_of _ (by decide +kernel)) ggX3_current_X3_isWithin
set_option maxRecDepth 20000 in
theorem ggX3_current_X0_countPlaces : GoodIn wsX3_current wsX0_countPlaces := goodIn_r _ [11, 12, 26, 27, 28, 29, 30] (by decide +kernel) (by decide +kernel)
set_option maxRecDepth 20000 in
theorem gX3_current_X0_countPlaces : GoodIn wsX3_current (wsV RX3 48 RX0 yX0_countPlaces wsX0_countPlaces) := goodIn_app (goodIn_of _ (by decide +kernel)) ggX3_current_X0_countPlaces
set_option maxRecDepth 20000 in
theorem ggX3_current_X0_sumOf : GoodIn wsX3_current wsX0_sumOf := goodIn_r _ [16, 17, 26, 27, 28, 29, 30] (by decide +kernel) (by decide +kernel)
set_option maxRecDepth 20000 in
theorem gX3_current_X0_sumOf : GoodIn wsX3_current (wsV RX3 45 RX0 yX0_sumOf wsX0_sumOf) := goodIn_app (goodIn_of _ (by decide +kernel)) ggX3_current_X0_sumOf
set_option maxRecDepth 20000 in
theorem ggX3_current_X3_partOfFraction : GoodIn wsX3_current wsX3_partOfFraction := goodIn_r _ [20, 21, 22, 5, 23] (by decide +kernel) (by decide +kernel)
set_option maxRecDepth 20000 in
theorem gX3_current_X3_partOfFraction : GoodIn wsX3_current (va_wsS RX3 51 yX3_partOfFraction wsX3_partOfFraction) := goodIn_app (goodIn_of _ (by decide +kernel)) ggX3_current_X3_partOfFraction
theorem dX3_current_0 : decode cX3_current 0 = .ok (.iload_n 1, 1) := by decide +kernel
theorem dX3_current_1 : decode cX3_current 1 = .ok (.iconst 0, 1) := by decide +kernel
theorem dX3_current_2 : decode cX3_current 2 = .ok (.iconst 1, 1) := by decide +kernel
theorem dX3_current_3 : decode cX3_current 3 = .ok (.invokestatic 23, 3) := by decide +kernel
theorem dX3_current_6 : decode cX3_current 6 = .ok (.ifCond .ne 7, 3) := by decide +kernel
theorem dX3_current_9 : decode cX3_current 9 = .ok (.ldc2_w 43, 3) := by decide +kernel
theorem dX3_current_12 : decode cX3_current 12 = .ok (.lreturn, 1) := by decide +kernel
theorem dX3_current_13 : decode cX3_current 13 = .ok (.aload_n 0, 1) := by decide +kernel
theorem dX3_current_14 : decode cX3_current 14 = .ok (.getfield 10, 3) := by decide +kernel
theorem dX3_current_17 : decode cX3_current 17 = .ok (.invokevirtual 48, 3) := by decide +kernel
theorem dX3_current_20 : decode cX3_current 20 = .ok (.istore_n 2, 1) := by decide +kernel
theorem dX3_current_21 : decode cX3_current 21 = .ok (.aload_n 0, 1) := by decide +kernel
theorem dX3_current_22 : decode cX3_current 22 = .ok (.getfield 10, 3) := by decide +kernel
theorem dX3_current_25 : decode cX3_current 25 = .ok (.iload_n 2, 1) := by decide +kernel
theorem dX3_current_26 : decode cX3_current 26 = .ok (.iconst 1, 1) := by decide +kernel
theorem dX3_current_27 : decode cX3_current 27 = .ok (.isub, 1) := by decide +kernel
theorem dX3_current_28 : decode cX3_current 28 = .ok (.invokevirtual 45, 3) := by decide +kernel
theorem dX3_current_31 : decode cX3_current 31 = .ok (.aload_n 0, 1) := by decide +kernel
theorem dX3_current_32 : decode cX3_current 32 = .ok (.getfield 10, 3) := by decide +kernel
theorem dX3_current_35 : decode cX3_current 35 = .ok (.iload_n 2, 1) := by decide +kernel
theorem dX3_current_36 : decode cX3_current 36 = .ok (.invokevirtual 45, 3) := by decide +kernel
theorem dX3_current_39 : decode cX3_current 39 = .ok (.iload_n 1, 1) := by decide +kernel
theorem dX3_current_40 : decode cX3_current 40 = .ok (.invokestatic 51, 3) := by decide +kernel
theorem dX3_current_43 : decode cX3_current 43 = .ok (.lreturn, 1) := by decide +kernel
set_option maxRecDepth 20000 in
theorem ggX3_taken_X0_hasState : GoodIn wsX3_taken wsX0_hasState := goodIn_r _ [7, 8, 9, 10, 6, 11, 12, 47, 48, 49, 50, 51] (by decide +kernel) (by decide +kernel)
set_option maxRecDepth 20000 in
theorem gX3_taken_X0_hasState : GoodIn wsX3_taken (wsV RX3 35 RX0 yX0_hasState wsX0_hasState) := goodIn_app (goodIn_of _ (by decide +kernel)) ggX3_taken_X0_hasState
set_option maxRecDepth 20000 in
theorem ggX3_taken_X3_isWithin : GoodIn wsX3_taken wsX3_isWithin := goodIn_r _ [16] (by decide +kernel) (by decide +kernel)
set_option maxRecDepth 20000 in
theorem gX3_taken_X3_isWithin : GoodIn wsX3_taken (va_wsS RX3 23 yX3_isWithin wsX3_isWithin) := goodIn_app (goodIn_of _ (by decide +kernel)) ggX3_taken_X3_isWithin
set_option maxRecDepth 20000 in
theorem ggX3_taken_X0_sumWithTaken : GoodIn wsX3_taken wsX0_sumWithTaken := goodIn_r _ [20, 8, 9, 10, 6, 11, 12, 21, 22, 23, 24, 25, 26, 27, 28, 29, 47, 48, 49, 50, 51] (by decide +kernel) (by decide +kernel)
set_option maxRecDepth 20000 in
theorem gX3_taken_X0_sumWithTaken : GoodIn wsX3_taken (wsV RX3 55 RX0 yX0_sumWithTaken wsX0_sumWithTaken) := goodIn_app (goodIn_of _ (by decide +kernel)) ggX3_taken_X0_sumWithTaken
set_option maxRecDepth 20000 in
theorem ggX3_taken_X0_countPlaces : GoodIn wsX3_taken wsX0_countPlaces := goodIn_r _ [33, 12, 47, 48, 49, 50, 51] (by decide +kernel) (by decide +kernel)
set_option maxRecDepth 20000 in
theorem gX3_taken_X0_countPlaces : GoodIn wsX3_taken (wsV RX3 48 RX0 yX0_countPlaces wsX0_countPlaces) := goodIn_app (goodIn_of _ (by decide +kernel)) ggX3_taken_X0_countPlaces
set_option maxRecDepth 20000 in
theorem ggX3_taken_X0_sumOf : GoodIn wsX3_taken wsX0_sumOf := goodIn_r _ [37, 38, 47, 48, 49, 50, 51] (by decide +kernel) (by decide +kernel)
set_option maxRecDepth 20000 in
theorem gX3_taken_X0_sumOf : GoodIn wsX3_taken (wsV RX3 45 RX0 yX0_sumOf wsX0_sumOf) := goodIn_app (goodIn_of _ (by decide +kernel)) ggX3_taken_X0_sumOf
set_option maxRecDepth 20000 in
theorem ggX3_taken_X3_partOfFraction : GoodIn wsX3_taken wsX3_partOfFraction := goodIn_r _ [41, 42, 43, 15, 44] (by decide +kernel) (by decide +kernel)
set_option maxRecDepth 20000 in
theorem gX3_taken_X3_partOfFraction : GoodIn wsX3_taken (va_wsS RX3 51 yX3_partOfFraction wsX3_partOfFraction) := goodIn_app (goodIn_of _ (by decide +kernel)) ggX3_taken_X3_partOfFraction
theorem dX3_taken_0 : decode cX3_taken 0 = .ok (.aload_n 0, 1) := by decide +kernel
theorem dX3_taken_1 : decode cX3_taken 1 = .ok (.getfield 10, 3) := by decide +kernel
theorem dX3_taken_4 : decode cX3_taken 4 = .ok (.iload_n 1, 1) := by decide +kernel
theorem dX3_taken_5 : decode cX3_taken 5 = .ok (.invokevirtual 35, 3) := by decide +kernel
theorem dX3_taken_8 : decode cX3_taken 8 = .ok (.ifCond .eq 12, 3) := by decide +kernel
theorem dX3_taken_11 : decode cX3_taken 11 = .ok (.iload_n 2, 1) := by decide +kernel
theorem dX3_taken_12 : decode cX3_taken 12 = .ok (.iconst 0, 1) := by decide +kernel
theorem dX3_taken_13 : decode cX3_taken 13 = .ok (.iconst 1, 1) := by decide +kernel
theorem dX3_taken_14 : decode cX3_taken 14 = .ok (.invokestatic 23, 3) := by decide +kernel
theorem dX3_taken_17 : decode cX3_taken 17 = .ok (.ifCond .ne 7, 3) := by decide +kernel
theorem dX3_taken_20 : decode cX3_taken 20 = .ok (.ldc2_w 43, 3) := by decide +kernel
theorem dX3_taken_23 : decode cX3_taken 23 = .ok (.lreturn, 1) := by decide +kernel
theorem dX3_taken_24 : decode cX3_taken 24 = .ok (.aload_n 0, 1) := by decide +kernel
theorem dX3_taken_25 : decode cX3_taken 25 = .ok (.getfield 10, 3) := by decide +kernel
theorem dX3_taken_28 : decode cX3_taken 28 = .ok (.iload_n 1, 1) := by decide +kernel
theorem dX3_taken_29 : decode cX3_taken 29 = .ok (.invokevirtual 55, 3) := by decide +kernel
theorem dX3_taken_32 : decode cX3_taken 32 = .ok (.aload_n 0, 1) := by decide +kernel
theorem dX3_taken_33 : decode cX3_taken 33 = .ok (.getfield 10, 3) := by decide +kernel
theorem dX3_taken_36 : decode cX3_taken 36 = .ok (.aload_n 0, 1) := by decide +kernel
theorem dX3_taken_37 : decode cX3_taken 37 = .ok (.getfield 10, 3) := by decide +kernel
theorem dX3_taken_40 : decode cX3_taken 40 = .ok (.invokevirtual 48, 3) := by decide +kernel
theorem dX3_taken_43 : decode cX3_taken 43 = .ok (.invokevirtual 45, 3) := by decide +kernel
theorem dX3_taken_46 : decode cX3_taken 46 = .ok (.iload_n 2, 1) := by decide +kernel
theorem dX3_taken_47 : decode cX3_taken 47 = .ok (.invokestatic 51, 3) := by decide +kernel
theorem dX3_taken_50 : decode cX3_taken 50 = .ok (.lreturn, 1) := by decide +kernel
set_option maxRecDepth 20000 in
theorem ggX3_flow_X0_hasState : GoodIn wsX3_flow wsX0_hasState := goodIn_r _ [7, 8, 9, 10, 6, 11, 12, 52, 53, 54, 55, 56] (by decide +kernel) (by decide +kernel)
set_option maxRecDepth 20000 in
theorem gX3_flow_X0_hasState : GoodIn wsX3_flow (wsV RX3 35 RX0 yX0_hasState wsX0_hasState) := goodIn_app (goodIn_of _ (by decide +kernel)) ggX3_flow_X0_hasState
set_option maxRecDepth 20000 in
theorem ggX3_flow_X3_isWithin : GoodIn wsX3_flow wsX3_isWithin := goodIn_r _ [16] (by decide +kernel) (by decide +kernel)
set_option maxRecDepth 20000 in
theorem gX3_flow_X3_isWithin : GoodIn wsX3_flow (va_wsS RX3 23 yX3_isWithin wsX3_isWithin) := goodIn_app (goodIn_of _ (by decide +kernel)) ggX3_flow_X3_isWithin
set_option maxRecDepth 20000 in
theorem ggX3_flow_X0_flowInto : GoodIn wsX3_flow wsX0_flowInto := goodIn_r _ [20, 12, 21, 15, 22, 23, 24, 25, 6, 26, 27, 28, 29, 30, 31, 32, 33, 34, 35, 36, 37, 38, 39, 40, 41, 42, 43, 44, 45, 52, 53, 54, 55, 56] (by decide +kernel) (by decide +kernel)
set_option maxRecDepth 20000 in
theorem gX3_flow_X0_flowInto : GoodIn wsX3_flow (wsV RX3 58 RX0 yX0_flowInto wsX0_flowInto) := goodIn_app (goodIn_of _ (by decide +kernel)) ggX3_flow_X0_flowInto
set_option maxRecDepth 20000 in
theorem ggX3_flow_X0_flowOutOf : GoodIn wsX3_flow wsX0_flowOutOf := goodIn_r _ [49, 12, 21, 15, 22, 32, 33, 34, 6, 35, 36, 37, 38, 39, 40, 41, 42, 43, 44, 45, 23, 24, 25, 26, 27, 28, 29, 30, 31, 52, 53, 54, 55, 56] (by decide +kernel) (by decide +kernel)
set_option maxRecDepth 20000 in
theorem gX3_flow_X0_flowOutOf : GoodIn wsX3_flow (wsV RX3 61 RX0 yX0_flowOutOf wsX0_flowOutOf) := goodIn_app (goodIn_of _ (by decide +kernel)) ggX3_flow_X0_flowOutOf
theorem dX3_flow_0 : decode cX3_flow 0 = .ok (.aload_n 0, 1) := by decide +kernel
theorem dX3_flow_1 : decode cX3_flow 1 = .ok (.getfield 10, 3) := by decide +kernel
theorem dX3_flow_4 : decode cX3_flow 4 = .ok (.iload_n 1, 1) := by decide +kernel
theorem dX3_flow_5 : decode cX3_flow 5 = .ok (.invokevirtual 35, 3) := by decide +kernel
theorem dX3_flow_8 : decode cX3_flow 8 = .ok (.ifCond .eq 12, 3) := by decide +kernel
theorem dX3_flow_11 : decode cX3_flow 11 = .ok (.iload_n 2, 1) := by decide +kernel
theorem dX3_flow_12 : decode cX3_flow 12 = .ok (.iconst 0, 1) := by decide +kernel
theorem dX3_flow_13 : decode cX3_flow 13 = .ok (.iconst 1, 1) := by decide +kernel
theorem dX3_flow_14 : decode cX3_flow 14 = .ok (.invokestatic 23, 3) := by decide +kernel
theorem dX3_flow_17 : decode cX3_flow 17 = .ok (.ifCond .ne 7, 3) := by decide +kernel
theorem dX3_flow_20 : decode cX3_flow 20 = .ok (.ldc2_w 43, 3) := by decide +kernel
theorem dX3_flow_23 : decode cX3_flow 23 = .ok (.lreturn, 1) := by decide +kernel
theorem dX3_flow_24 : decode cX3_flow 24 = .ok (.iload_n 2, 1) := by decide +kernel
theorem dX3_flow_25 : decode cX3_flow 25 = .ok (.ifCond .ne 14, 3) := by decide +kernel
theorem dX3_flow_28 : decode cX3_flow 28 = .ok (.aload_n 0, 1) := by decide +kernel
theorem dX3_flow_29 : decode cX3_flow 29 = .ok (.getfield 10, 3) := by decide +kernel
theorem dX3_flow_32 : decode cX3_flow 32 = .ok (.iload_n 1, 1) := by decide +kernel
theorem dX3_flow_33 : decode cX3_flow 33 = .ok (.invokevirtual 58, 3) := by decide +kernel
theorem dX3_flow_36 : decode cX3_flow 36 = .ok (.goto 11, 3) := by decide +kernel
theorem dX3_flow_39 : decode cX3_flow 39 = .ok (.aload_n 0, 1) := by decide +kernel
theorem dX3_flow_40 : decode cX3_flow 40 = .ok (.getfield 10, 3) := by decide +kernel
theorem dX3_flow_43 : decode cX3_flow 43 = .ok (.iload_n 1, 1) := by decide +kernel
theorem dX3_flow_44 : decode cX3_flow 44 = .ok (.invokevirtual 61, 3) := by decide +kernel
theorem dX3_flow_47 : decode cX3_flow 47 = .ok (.lreturn, 1) := by decide +kernel
set_option maxRecDepth 20000 in
theorem ggX3_extreme_X3_isWithin : GoodIn wsX3_extreme wsX3_isWithin := goodIn_r _ [5] (by decide +kernel) (by decide +kernel)
set_option maxRecDepth 20000 in
theorem gX3_extreme_X3_isWithin : GoodIn wsX3_extreme (va_wsS RX3 23 yX3_isWithin wsX3_isWithin) := goodIn_app (goodIn_of _ (by decide +kernel)) ggX3_extreme_X3_isWithin
set_option maxRecDepth 20000 in
theorem ggX3_extreme_X0_heaviestState : GoodIn wsX3_extreme wsX0_heaviestState := goodIn_r _ [10, 11, 12, 13, 9, 14, 15, 16, 17, 18, 19, 20, 21, 22, 23, 24, 31, 32, 33, 34, 35] (by decide +kernel) (by decide +kernel)
set_option maxRecDepth 20000 in
theorem gX3_extreme_X0_heaviestState : GoodIn wsX3_extreme (wsV RX3 64 RX0 yX0_heaviestState wsX0_heaviestState) := goodIn_app (goodIn_of _ (by decide +kernel)) ggX3_extreme_X0_heaviestState
set_option maxRecDepth 20000 in
theorem ggX3_extreme_X0_lightestState : GoodIn wsX3_extreme wsX0_lightestState := goodIn_r _ [28, 11, 12, 13, 9, 14, 15, 16, 17, 18, 19, 20, 21, 22, 23, 24, 31, 32, 33, 34, 35] (by decide +kernel) (by decide +kernel)
set_option maxRecDepth 20000 in
theorem gX3_extreme_X0_lightestState : GoodIn wsX3_extreme (wsV RX3 67 RX0 yX0_lightestState wsX0_lightestState) := goodIn_app (goodIn_of _ (by decide +kernel)) ggX3_extreme_X0_lightestState
theorem dX3_extreme_0 : decode cX3_extreme 0 = .ok (.iload_n 1, 1) := by decide +kernel
theorem dX3_extreme_1 : decode cX3_extreme 1 = .ok (.iconst 0, 1) := by decide +kernel
theorem dX3_extreme_2 : decode cX3_extreme 2 = .ok (.iconst 1, 1) := by decide +kernel
theorem dX3_extreme_3 : decode cX3_extreme 3 = .ok (.invokestatic 23, 3) := by decide +kernel
theorem dX3_extreme_6 : decode cX3_extreme 6 = .ok (.ifCond .ne 5, 3) := by decide +kernel
theorem dX3_extreme_9 : decode cX3_extreme 9 = .ok (.iconst (-1), 1) := by decide +kernel
theorem dX3_extreme_10 : decode cX3_extreme 10 = .ok (.ireturn, 1) := by decide +kernel
theorem dX3_extreme_11 : decode cX3_extreme 11 = .ok (.iload_n 1, 1) := by decide +kernel
theorem dX3_extreme_12 : decode cX3_extreme 12 = .ok (.ifCond .ne 13, 3) := by decide +kernel
theorem dX3_extreme_15 : decode cX3_extreme 15 = .ok (.aload_n 0, 1) := by decide +kernel
theorem dX3_extreme_16 : decode cX3_extreme 16 = .ok (.getfield 10, 3) := by decide +kernel
theorem dX3_extreme_19 : decode cX3_extreme 19 = .ok (.invokevirtual 64, 3) := by decide +kernel
theorem dX3_extreme_22 : decode cX3_extreme 22 = .ok (.goto 10, 3) := by decide +kernel
theorem dX3_extreme_25 : decode cX3_extreme 25 = .ok (.aload_n 0, 1) := by decide +kernel
theorem dX3_extreme_26 : decode cX3_extreme 26 = .ok (.getfield 10, 3) := by decide +kernel
theorem dX3_extreme_29 : decode cX3_extreme 29 = .ok (.invokevirtual 67, 3) := by decide +kernel
theorem dX3_extreme_32 : decode cX3_extreme 32 = .ok (.ireturn, 1) := by decide +kernel
set_option maxRecDepth 20000 in
theorem ggX3_queue_X3_isWithin : GoodIn wsX3_queue wsX3_isWithin := goodIn_r _ [4] (by decide +kernel) (by decide +kernel)
set_option maxRecDepth 20000 in
theorem gX3_queue_X3_isWithin : GoodIn wsX3_queue (va_wsS RX3 23 yX3_isWithin wsX3_isWithin) := goodIn_app (goodIn_of _ (by decide +kernel)) ggX3_queue_X3_isWithin
set_option maxRecDepth 20000 in
theorem ggX3_queue_X1_areRows : GoodIn wsX3_queue wsX1_areRows := goodIn_r _ [8, 2, 3, 4, 9, 10, 11, 12, 13, 14, 15] (by decide +kernel) (by decide +kernel)
set_option maxRecDepth 20000 in
theorem gX3_queue_X1_areRows : GoodIn wsX3_queue (va_wsS RX3 70 yX1_areRows wsX1_areRows) := goodIn_app (goodIn_of _ (by decide +kernel)) ggX3_queue_X1_areRows
set_option maxRecDepth 20000 in
theorem ggX3_queue_X1_servedPlaces : GoodIn wsX3_queue wsX1_servedPlaces := goodIn_r _ [18, 19, 3, 20, 21, 22, 7, 23] (by decide +kernel) (by decide +kernel)
set_option maxRecDepth 20000 in
theorem gX3_queue_X1_servedPlaces : GoodIn wsX3_queue (va_wsS RX3 75 yX1_servedPlaces wsX1_servedPlaces) := goodIn_app (goodIn_of _ (by decide +kernel)) ggX3_queue_X1_servedPlaces
set_option maxRecDepth 20000 in
theorem ggX3_queue_X1_numberOf : GoodIn wsX3_queue wsX1_numberOf := goodIn_r _ [26, 19, 3, 20] (by decide +kernel) (by decide +kernel)
set_option maxRecDepth 20000 in
theorem gX3_queue_X1_numberOf : GoodIn wsX3_queue (va_wsS RX3 79 yX1_numberOf wsX1_numberOf) := goodIn_app (goodIn_of _ (by decide +kernel)) ggX3_queue_X1_numberOf
theorem dX3_queue_0 : decode cX3_queue 0 = .ok (.iload_n 1, 1) := by decide +kernel
theorem dX3_queue_1 : decode cX3_queue 1 = .ok (.iconst 3, 1) := by decide +kernel
theorem dX3_queue_2 : decode cX3_queue 2 = .ok (.bipush 8, 2) := by decide +kernel
theorem dX3_queue_4 : decode cX3_queue 4 = .ok (.invokestatic 23, 3) := by decide +kernel
theorem dX3_queue_7 : decode cX3_queue 7 = .ok (.ifCond .eq 12, 3) := by decide +kernel
theorem dX3_queue_10 : decode cX3_queue 10 = .ok (.iload_n 1, 1) := by decide +kernel
theorem dX3_queue_11 : decode cX3_queue 11 = .ok (.iload_n 2, 1) := by decide +kernel
theorem dX3_queue_12 : decode cX3_queue 12 = .ok (.iload_n 3, 1) := by decide +kernel
theorem dX3_queue_13 : decode cX3_queue 13 = .ok (.invokestatic 70, 3) := by decide +kernel
theorem dX3_queue_16 : decode cX3_queue 16 = .ok (.ifCond .ne 5, 3) := by decide +kernel
theorem dX3_queue_19 : decode cX3_queue 19 = .ok (.iconst (-1), 1) := by decide +kernel
theorem dX3_queue_20 : decode cX3_queue 20 = .ok (.ireturn, 1) := by decide +kernel
theorem dX3_queue_21 : decode cX3_queue 21 = .ok (.iload_n 1, 1) := by decide +kernel
theorem dX3_queue_22 : decode cX3_queue 22 = .ok (.iload_n 1, 1) := by decide +kernel
theorem dX3_queue_23 : decode cX3_queue 23 = .ok (.iload_n 2, 1) := by decide +kernel
theorem dX3_queue_24 : decode cX3_queue 24 = .ok (.iload_n 3, 1) := by decide +kernel
theorem dX3_queue_25 : decode cX3_queue 25 = .ok (.invokestatic 75, 3) := by decide +kernel
theorem dX3_queue_28 : decode cX3_queue 28 = .ok (.iload_n 3, 1) := by decide +kernel
theorem dX3_queue_29 : decode cX3_queue 29 = .ok (.invokestatic 79, 3) := by decide +kernel
theorem dX3_queue_32 : decode cX3_queue 32 = .ok (.ireturn, 1) := by decide +kernel
set_option maxRecDepth 20000 in
theorem ggX3_ways_X3_isWithin : GoodIn wsX3_ways wsX3_isWithin := goodIn_r _ [4] (by decide +kernel) (by decide +kernel)
set_option maxRecDepth 20000 in
theorem gX3_ways_X3_isWithin : GoodIn wsX3_ways (va_wsS RX3 23 yX3_isWithin wsX3_isWithin) := goodIn_app (goodIn_of _ (by decide +kernel)) ggX3_ways_X3_isWithin
set_option maxRecDepth 20000 in
theorem ggX3_ways_X1_greatestNumber : GoodIn wsX3_ways wsX1_greatestNumber := goodIn_r _ [8] (by decide +kernel) (by decide +kernel)
set_option maxRecDepth 20000 in
theorem gX3_ways_X1_greatestNumber : GoodIn wsX3_ways (va_wsS RX3 82 yX1_greatestNumber wsX1_greatestNumber) := goodIn_app (goodIn_of _ (by decide +kernel)) ggX3_ways_X1_greatestNumber
set_option maxRecDepth 20000 in
theorem ggX3_ways_X1_placesOfSort : GoodIn wsX3_ways wsX1_placesOfSort := goodIn_r _ [11] (by decide +kernel) (by decide +kernel)
set_option maxRecDepth 20000 in
theorem gX3_ways_X1_placesOfSort : GoodIn wsX3_ways (va_wsS RX3 86 yX1_placesOfSort wsX1_placesOfSort) := goodIn_app (goodIn_of _ (by decide +kernel)) ggX3_ways_X1_placesOfSort
set_option maxRecDepth 20000 in
theorem ggX3_ways_X1_countUpperRows : GoodIn wsX3_ways wsX1_countUpperRows := goodIn_r _ [14, 15, 16, 17, 18, 19, 20, 21, 22, 23, 7, 24, 25, 3, 26, 27, 28, 29] (by decide +kernel) (by decide +kernel)
set_option maxRecDepth 20000 in
theorem gX3_ways_X1_countUpperRows : GoodIn wsX3_ways (va_wsS RX3 89 yX1_countUpperRows wsX1_countUpperRows) := goodIn_app (goodIn_of _ (by decide +kernel)) ggX3_ways_X1_countUpperRows
theorem dX3_ways_0 : decode cX3_ways 0 = .ok (.iload_n 1, 1) := by decide +kernel
theorem dX3_ways_1 : decode cX3_ways 1 = .ok (.iconst 3, 1) := by decide +kernel
theorem dX3_ways_2 : decode cX3_ways 2 = .ok (.bipush 8, 2) := by decide +kernel
theorem dX3_ways_4 : decode cX3_ways 4 = .ok (.invokestatic 23, 3) := by decide +kernel
theorem dX3_ways_7 : decode cX3_ways 7 = .ok (.ifCond .eq 15, 3) := by decide +kernel
theorem dX3_ways_10 : decode cX3_ways 10 = .ok (.iload_n 2, 1) := by decide +kernel
theorem dX3_ways_11 : decode cX3_ways 11 = .ok (.iconst 0, 1) := by decide +kernel
theorem dX3_ways_12 : decode cX3_ways 12 = .ok (.iload_n 1, 1) := by decide +kernel
theorem dX3_ways_13 : decode cX3_ways 13 = .ok (.invokestatic 82, 3) := by decide +kernel
theorem dX3_ways_16 : decode cX3_ways 16 = .ok (.invokestatic 23, 3) := by decide +kernel
theorem dX3_ways_19 : decode cX3_ways 19 = .ok (.ifCond .ne 5, 3) := by decide +kernel
theorem dX3_ways_22 : decode cX3_ways 22 = .ok (.iconst (-1), 1) := by decide +kernel
theorem dX3_ways_23 : decode cX3_ways 23 = .ok (.ireturn, 1) := by decide +kernel
theorem dX3_ways_24 : decode cX3_ways 24 = .ok (.iload_n 1, 1) := by decide +kernel
theorem dX3_ways_25 : decode cX3_ways 25 = .ok (.iload_n 2, 1) := by decide +kernel
theorem dX3_ways_26 : decode cX3_ways 26 = .ok (.iconst 1, 1) := by decide +kernel
theorem dX3_ways_27 : decode cX3_ways 27 = .ok (.invokestatic 86, 3) := by decide +kernel
theorem dX3_ways_30 : decode cX3_ways 30 = .ok (.istore_n 3, 1) := by decide +kernel
theorem dX3_ways_31 : decode cX3_ways 31 = .ok (.iload_n 1, 1) := by decide +kernel
theorem dX3_ways_32 : decode cX3_ways 32 = .ok (.iload_n 2, 1) := by decide +kernel
theorem dX3_ways_33 : decode cX3_ways 33 = .ok (.iconst 2, 1) := by decide +kernel
theorem dX3_ways_34 : decode cX3_ways 34 = .ok (.invokestatic 86, 3) := by decide +kernel
theorem dX3_ways_37 : decode cX3_ways 37 = .ok (.istore 4, 2) := by decide +kernel
theorem dX3_ways_39 : decode cX3_ways 39 = .ok (.iload_n 1, 1) := by decide +kernel
theorem dX3_ways_40 : decode cX3_ways 40 = .ok (.iload_n 2, 1) := by decide +kernel
theorem dX3_ways_41 : decode cX3_ways 41 = .ok (.iconst 0, 1) := by decide +kernel
theorem dX3_ways_42 : decode cX3_ways 42 = .ok (.invokestatic 86, 3) := by decide +kernel
theorem dX3_ways_45 : decode cX3_ways 45 = .ok (.istore 5, 2) := by decide +kernel
theorem dX3_ways_47 : decode cX3_ways 47 = .ok (.iload_n 3, 1) := by decide +kernel
theorem dX3_ways_48 : decode cX3_ways 48 = .ok (.ifCond .eq 13, 3) := by decide +kernel
theorem dX3_ways_51 : decode cX3_ways 51 = .ok (.iload 4, 2) := by decide +kernel
theorem dX3_ways_53 : decode cX3_ways 53 = .ok (.ifCond .eq 8, 3) := by decide +kernel
theorem dX3_ways_56 : decode cX3_ways 56 = .ok (.iload 5, 2) := by decide +kernel
theorem dX3_ways_58 : decode cX3_ways 58 = .ok (.ifCond .ne 5, 3) := by decide +kernel
theorem dX3_ways_61 : decode cX3_ways 61 = .ok (.iconst (-1), 1) := by decide +kernel
theorem dX3_ways_62 : decode cX3_ways 62 = .ok (.ireturn, 1) := by decide +kernel
theorem dX3_ways_63 : decode cX3_ways 63 = .ok (.iload_n 1, 1) := by decide +kernel
theorem dX3_ways_64 : decode cX3_ways 64 = .ok (.iload_n 3, 1) := by decide +kernel
theorem dX3_ways_65 : decode cX3_ways 65 = .ok (.iload_n 3, 1) := by decide +kernel
theorem dX3_ways_66 : decode cX3_ways 66 = .ok (.iload 4, 2) := by decide +kernel
theorem dX3_ways_68 : decode cX3_ways 68 = .ok (.ior, 1) := by decide +kernel
theorem dX3_ways_69 : decode cX3_ways 69 = .ok (.invokestatic 89, 3) := by decide +kernel
theorem dX3_ways_72 : decode cX3_ways 72 = .ok (.ireturn, 1) := by decide +kernel
set_option maxRecDepth 20000 in
theorem ggX3_step_X3_isWithin : GoodIn wsX3_step wsX3_isWithin := goodIn_r _ [5] (by decide +kernel) (by decide +kernel)
set_option maxRecDepth 20000 in
theorem gX3_step_X3_isWithin : GoodIn wsX3_step (va_wsS RX3 23 yX3_isWithin wsX3_isWithin) := goodIn_app (goodIn_of _ (by decide +kernel)) ggX3_step_X3_isWithin
set_option maxRecDepth 20000 in
theorem ggX3_step_X2_begin : GoodIn wsX3_step wsX2_begin := goodIn_r _ [10, 11, 12, 13, 14, 15, 16, 17, 18, 21, 22, 23, 24, 25, 26, 27, 28] (by decide +kernel) (by decide +kernel)
set_option maxRecDepth 20000 in
theorem gX3_step_X2_begin : GoodIn wsX3_step (wsV RX3 92 RX2 yX2_begin wsX2_begin) := goodIn_app (goodIn_of _ (by decide +kernel)) ggX3_step_X2_begin
theorem dX3_step_0 : decode cX3_step 0 = .ok (.iload_n 1, 1) := by decide +kernel
theorem dX3_step_1 : decode cX3_step 1 = .ok (.iconst 2, 1) := by decide +kernel
theorem dX3_step_2 : decode cX3_step 2 = .ok (.bipush 30, 2) := by decide +kernel
theorem dX3_step_4 : decode cX3_step 4 = .ok (.invokestatic 23, 3) := by decide +kernel
theorem dX3_step_7 : decode cX3_step 7 = .ok (.ifCond .ne 5, 3) := by decide +kernel
theorem dX3_step_10 : decode cX3_step 10 = .ok (.iconst (-1), 1) := by decide +kernel
theorem dX3_step_11 : decode cX3_step 11 = .ok (.ireturn, 1) := by decide +kernel
theorem dX3_step_12 : decode cX3_step 12 = .ok (.aload_n 0, 1) := by decide +kernel
theorem dX3_step_13 : decode cX3_step 13 = .ok (.getfield 19, 3) := by decide +kernel
theorem dX3_step_16 : decode cX3_step 16 = .ok (.iload_n 1, 1) := by decide +kernel
theorem dX3_step_17 : decode cX3_step 17 = .ok (.iload_n 2, 1) := by decide +kernel
theorem dX3_step_18 : decode cX3_step 18 = .ok (.invokevirtual 92, 3) := by decide +kernel
theorem dX3_step_21 : decode cX3_step 21 = .ok (.iconst 0, 1) := by decide +kernel
theorem dX3_step_22 : decode cX3_step 22 = .ok (.ireturn, 1) := by decide +kernel
set_option maxRecDepth 20000 in
theorem ggX3_set_X2_mayHavePlace : GoodIn wsX3_set wsX2_mayHavePlace := goodIn_r _ [6, 7, 8, 9, 10, 5, 11, 31, 32, 33, 34, 35, 36, 37, 38] (by decide +kernel) (by decide +kernel)
set_option maxRecDepth 20000 in
theorem gX3_set_X2_mayHavePlace : GoodIn wsX3_set (wsV RX3 96 RX2 yX2_mayHavePlace wsX2_mayHavePlace) := goodIn_app (goodIn_of _ (by decide +kernel)) ggX3_set_X2_mayHavePlace
set_option maxRecDepth 20000 in
theorem ggX3_set_X3_isWithin : GoodIn wsX3_set wsX3_isWithin := goodIn_r _ [15] (by decide +kernel) (by decide +kernel)
set_option maxRecDepth 20000 in
theorem gX3_set_X3_isWithin : GoodIn wsX3_set (va_wsS RX3 23 yX3_isWithin wsX3_isWithin) := goodIn_app (goodIn_of _ (by decide +kernel)) ggX3_set_X3_isWithin
set_option maxRecDepth 20000 in
theorem ggX3_set_X2_isThere : GoodIn wsX3_set wsX2_isThere := goodIn_r _ [11, 7, 31, 32, 33, 34, 35, 36, 37, 38] (by decide +kernel) (by decide +kernel)
set_option maxRecDepth 20000 in
theorem gX3_set_X2_isThere : GoodIn wsX3_set (wsV RX3 99 RX2 yX2_isThere wsX2_isThere) := goodIn_app (goodIn_of _ (by decide +kernel)) ggX3_set_X2_isThere
set_option maxRecDepth 20000 in
theorem ggX3_set_X2_sortAt : GoodIn wsX3_set wsX2_sortAt := goodIn_r _ [20, 21, 22, 23, 14, 24, 31, 32, 33, 34, 35, 36, 37, 38] (by decide +kernel) (by decide +kernel)
set_option maxRecDepth 20000 in
theorem gX3_set_X2_sortAt : GoodIn wsX3_set (wsV RX3 103 RX2 yX2_sortAt wsX2_sortAt) := goodIn_app (goodIn_of _ (by decide +kernel)) ggX3_set_X2_sortAt
set_option maxRecDepth 20000 in
theorem ggX3_set_X2_put : GoodIn wsX3_set wsX2_put := goodIn_r _ [28, 21, 22, 31, 32, 33, 34, 35, 36, 37, 38] (by decide +kernel) (by decide +kernel)
set_option maxRecDepth 20000 in
theorem gX3_set_X2_put : GoodIn wsX3_set (wsV RX3 106 RX2 yX2_put wsX2_put) := goodIn_app (goodIn_of _ (by decide +kernel)) ggX3_set_X2_put
theorem dX3_set_0 : decode cX3_set 0 = .ok (.aload_n 0, 1) := by decide +kernel
theorem dX3_set_1 : decode cX3_set 1 = .ok (.getfield 19, 3) := by decide +kernel
theorem dX3_set_4 : decode cX3_set 4 = .ok (.iload_n 1, 1) := by decide +kernel
theorem dX3_set_5 : decode cX3_set 5 = .ok (.invokevirtual 96, 3) := by decide +kernel
theorem dX3_set_8 : decode cX3_set 8 = .ok (.ifCond .eq 12, 3) := by decide +kernel
theorem dX3_set_11 : decode cX3_set 11 = .ok (.iload_n 2, 1) := by decide +kernel
theorem dX3_set_12 : decode cX3_set 12 = .ok (.iconst 0, 1) := by decide +kernel
theorem dX3_set_13 : decode cX3_set 13 = .ok (.iconst 2, 1) := by decide +kernel
theorem dX3_set_14 : decode cX3_set 14 = .ok (.invokestatic 23, 3) := by decide +kernel
theorem dX3_set_17 : decode cX3_set 17 = .ok (.ifCond .ne 5, 3) := by decide +kernel
theorem dX3_set_20 : decode cX3_set 20 = .ok (.iconst (-1), 1) := by decide +kernel
theorem dX3_set_21 : decode cX3_set 21 = .ok (.ireturn, 1) := by decide +kernel
theorem dX3_set_22 : decode cX3_set 22 = .ok (.aload_n 0, 1) := by decide +kernel
theorem dX3_set_23 : decode cX3_set 23 = .ok (.getfield 19, 3) := by decide +kernel
theorem dX3_set_26 : decode cX3_set 26 = .ok (.invokevirtual 99, 3) := by decide +kernel
theorem dX3_set_29 : decode cX3_set 29 = .ok (.ifCond .ne 6, 3) := by decide +kernel
theorem dX3_set_32 : decode cX3_set 32 = .ok (.bipush (-2), 2) := by decide +kernel
theorem dX3_set_34 : decode cX3_set 34 = .ok (.ireturn, 1) := by decide +kernel
theorem dX3_set_35 : decode cX3_set 35 = .ok (.aload_n 0, 1) := by decide +kernel
theorem dX3_set_36 : decode cX3_set 36 = .ok (.getfield 19, 3) := by decide +kernel
theorem dX3_set_39 : decode cX3_set 39 = .ok (.iload_n 1, 1) := by decide +kernel
theorem dX3_set_40 : decode cX3_set 40 = .ok (.invokevirtual 103, 3) := by decide +kernel
theorem dX3_set_43 : decode cX3_set 43 = .ok (.istore_n 3, 1) := by decide +kernel
theorem dX3_set_44 : decode cX3_set 44 = .ok (.aload_n 0, 1) := by decide +kernel
theorem dX3_set_45 : decode cX3_set 45 = .ok (.getfield 19, 3) := by decide +kernel
theorem dX3_set_48 : decode cX3_set 48 = .ok (.iload_n 1, 1) := by decide +kernel
theorem dX3_set_49 : decode cX3_set 49 = .ok (.iload_n 2, 1) := by decide +kernel
theorem dX3_set_50 : decode cX3_set 50 = .ok (.invokevirtual 106, 3) := by decide +kernel
theorem dX3_set_53 : decode cX3_set 53 = .ok (.iload_n 3, 1) := by decide +kernel
theorem dX3_set_54 : decode cX3_set 54 = .ok (.ireturn, 1) := by decide +kernel
set_option maxRecDepth 20000 in
theorem ggX3_seed_X2_isThere : GoodIn wsX3_seed wsX2_isThere := goodIn_r _ [6, 7, 15, 16, 17, 18, 19, 20, 21, 22] (by decide +kernel) (by decide +kernel)
set_option maxRecDepth 20000 in
theorem gX3_seed_X2_isThere : GoodIn wsX3_seed (wsV RX3 99 RX2 yX2_isThere wsX2_isThere) := goodIn_app (goodIn_of _ (by decide +kernel)) ggX3_seed_X2_isThere
set_option maxRecDepth 20000 in
theorem ggX3_seed_X2_sow : GoodIn wsX3_seed wsX2_sow := goodIn_r _ [11, 12, 15, 16, 17, 18, 19, 20, 21, 22] (by decide +kernel) (by decide +kernel)
set_option maxRecDepth 20000 in
theorem gX3_seed_X2_sow : GoodIn wsX3_seed (wsV RX3 110 RX2 yX2_sow wsX2_sow) := goodIn_app (goodIn_of _ (by decide +kernel)) ggX3_seed_X2_sow
theorem dX3_seed_0 : decode cX3_seed 0 = .ok (.iload_n 1, 1) := by decide +kernel
theorem dX3_seed_1 : decode cX3_seed 1 = .ok (.ifCond .ge 5, 3) := by decide +kernel
theorem dX3_seed_4 : decode cX3_seed 4 = .ok (.iconst (-1), 1) := by decide +kernel
theorem dX3_seed_5 : decode cX3_seed 5 = .ok (.ireturn, 1) := by decide +kernel
theorem dX3_seed_6 : decode cX3_seed 6 = .ok (.aload_n 0, 1) := by decide +kernel
theorem dX3_seed_7 : decode cX3_seed 7 = .ok (.getfield 19, 3) := by decide +kernel
theorem dX3_seed_10 : decode cX3_seed 10 = .ok (.invokevirtual 99, 3) := by decide +kernel
theorem dX3_seed_13 : decode cX3_seed 13 = .ok (.ifCond .ne 6, 3) := by decide +kernel
theorem dX3_seed_16 : decode cX3_seed 16 = .ok (.bipush (-2), 2) := by decide +kernel
theorem dX3_seed_18 : decode cX3_seed 18 = .ok (.ireturn, 1) := by decide +kernel
theorem dX3_seed_19 : decode cX3_seed 19 = .ok (.aload_n 0, 1) := by decide +kernel
theorem dX3_seed_20 : decode cX3_seed 20 = .ok (.getfield 19, 3) := by decide +kernel
theorem dX3_seed_23 : decode cX3_seed 23 = .ok (.iload_n 1, 1) := by decide +kernel
theorem dX3_seed_24 : decode cX3_seed 24 = .ok (.invokevirtual 110, 3) := by decide +kernel
theorem dX3_seed_27 : decode cX3_seed 27 = .ok (.iconst 0, 1) := by decide +kernel
theorem dX3_seed_28 : decode cX3_seed 28 = .ok (.ireturn, 1) := by decide +kernel
set_option maxRecDepth 20000 in
theorem ggX3_go_X3_isWithin : GoodIn wsX3_go wsX3_isWithin := goodIn_r _ [5] (by decide +kernel) (by decide +kernel)
set_option maxRecDepth 20000 in
theorem gX3_go_X3_isWithin : GoodIn wsX3_go (va_wsS RX3 23 yX3_isWithin wsX3_isWithin) := goodIn_app (goodIn_of _ (by decide +kernel)) ggX3_go_X3_isWithin
set_option maxRecDepth 20000 in
theorem ggX3_go_X2_isThere : GoodIn wsX3_go wsX2_isThere := goodIn_r _ [10, 11, 57, 58, 59, 60, 61, 62, 63, 64] (by decide +kernel) (by decide +kernel)
set_option maxRecDepth 20000 in
theorem gX3_go_X2_isThere : GoodIn wsX3_go (wsV RX3 99 RX2 yX2_isThere wsX2_isThere) := goodIn_app (goodIn_of _ (by decide +kernel)) ggX3_go_X2_isThere
set_option maxRecDepth 20000 in
theorem ggX3_go_X2_stepSingly : GoodIn wsX3_go wsX2_stepSingly := goodIn_r _ [15, 16, 17, 18, 9, 19, 20, 21, 22, 11, 23, 24, 25, 26, 27, 28, 29, 30, 31, 32, 33, 34, 35, 36, 37, 38, 39, 4, 40, 41, 42, 43, 44, 45, 46, 47, 48, 49, 50, 51, 52, 53, 54, 57, 58, 59, 60, 61, 62, 63, 64] (by decide +kernel) (by decide +kernel)
set_option maxRecDepth 20000 in
theorem gX3_go_X2_stepSingly : GoodIn wsX3_go (wsV RX3 114 RX2 yX2_stepSingly wsX2_stepSingly) := goodIn_app (goodIn_of _ (by decide +kernel)) ggX3_go_X2_stepSingly
theorem dX3_go_0 : decode cX3_go 0 = .ok (.iload_n 1, 1) := by decide +kernel
theorem dX3_go_1 : decode cX3_go 1 = .ok (.iconst 1, 1) := by decide +kernel
theorem dX3_go_2 : decode cX3_go 2 = .ok (.sipush 10000, 3) := by decide +kernel
theorem dX3_go_5 : decode cX3_go 5 = .ok (.invokestatic 23, 3) := by decide +kernel
theorem dX3_go_8 : decode cX3_go 8 = .ok (.ifCond .ne 5, 3) := by decide +kernel
theorem dX3_go_11 : decode cX3_go 11 = .ok (.iconst (-1), 1) := by decide +kernel
theorem dX3_go_12 : decode cX3_go 12 = .ok (.ireturn, 1) := by decide +kernel
theorem dX3_go_13 : decode cX3_go 13 = .ok (.aload_n 0, 1) := by decide +kernel
theorem dX3_go_14 : decode cX3_go 14 = .ok (.getfield 19, 3) := by decide +kernel
theorem dX3_go_17 : decode cX3_go 17 = .ok (.invokevirtual 99, 3) := by decide +kernel
theorem dX3_go_20 : decode cX3_go 20 = .ok (.ifCond .eq 14, 3) := by decide +kernel
theorem dX3_go_23 : decode cX3_go 23 = .ok (.aload_n 0, 1) := by decide +kernel
theorem dX3_go_24 : decode cX3_go 24 = .ok (.getfield 19, 3) := by decide +kernel
theorem dX3_go_27 : decode cX3_go 27 = .ok (.iload_n 1, 1) := by decide +kernel
theorem dX3_go_28 : decode cX3_go 28 = .ok (.invokevirtual 114, 3) := by decide +kernel
theorem dX3_go_31 : decode cX3_go 31 = .ok (.goto 5, 3) := by decide +kernel
theorem dX3_go_34 : decode cX3_go 34 = .ok (.bipush (-2), 2) := by decide +kernel
theorem dX3_go_36 : decode cX3_go 36 = .ok (.ireturn, 1) := by decide +kernel
set_option maxRecDepth 20000 in
theorem ggX3_together_X3_isWithin : GoodIn wsX3_together wsX3_isWithin := goodIn_r _ [5] (by decide +kernel) (by decide +kernel)
set_option maxRecDepth 20000 in
theorem gX3_together_X3_isWithin : GoodIn wsX3_together (va_wsS RX3 23 yX3_isWithin wsX3_isWithin) := goodIn_app (goodIn_of _ (by decide +kernel)) ggX3_together_X3_isWithin
set_option maxRecDepth 20000 in
theorem ggX3_together_X2_isThere : GoodIn wsX3_together wsX2_isThere := goodIn_r _ [10, 11, 51, 52, 53, 54, 55, 56, 57, 58] (by decide +kernel) (by decide +kernel)
set_option maxRecDepth 20000 in
theorem gX3_together_X2_isThere : GoodIn wsX3_together (wsV RX3 99 RX2 yX2_isThere wsX2_isThere) := goodIn_app (goodIn_of _ (by decide +kernel)) ggX3_together_X2_isThere
set_option maxRecDepth 20000 in
theorem ggX3_together_X2_countOfSort : GoodIn wsX3_together wsX2_countOfSort := goodIn_r _ [15, 16, 17, 18, 19, 20, 21, 22, 23, 24, 51, 52, 53, 54, 55, 56, 57, 58] (by decide +kernel) (by decide +kernel)
set_option maxRecDepth 20000 in
theorem gX3_together_X2_countOfSort : GoodIn wsX3_together (wsV RX3 117 RX2 yX2_countOfSort wsX2_countOfSort) := goodIn_app (goodIn_of _ (by decide +kernel)) ggX3_together_X2_countOfSort
set_option maxRecDepth 20000 in
theorem ggX3_together_X2_stepAllAtOnce : GoodIn wsX3_together wsX2_stepAllAtOnce := goodIn_r _ [28, 29, 30, 31, 32, 33, 9, 34, 16, 11, 35, 36, 37, 38, 39, 40, 17, 41, 42, 43, 44, 18, 19, 20, 21, 22, 23, 24, 45, 46, 47, 48, 51, 52, 53, 54, 55, 56, 57, 58] (by decide +kernel) (by decide +kernel)
set_option maxRecDepth 20000 in
theorem gX3_together_X2_stepAllAtOnce : GoodIn wsX3_together (wsV RX3 120 RX2 yX2_stepAllAtOnce wsX2_stepAllAtOnce) := goodIn_app (goodIn_of _ (by decide +kernel)) ggX3_together_X2_stepAllAtOnce
theorem dX3_together_0 : decode cX3_together 0 = .ok (.iload_n 1, 1) := by decide +kernel
theorem dX3_together_1 : decode cX3_together 1 = .ok (.iconst 1, 1) := by decide +kernel
theorem dX3_together_2 : decode cX3_together 2 = .ok (.sipush 1000, 3) := by decide +kernel
theorem dX3_together_5 : decode cX3_together 5 = .ok (.invokestatic 23, 3) := by decide +kernel
theorem dX3_together_8 : decode cX3_together 8 = .ok (.ifCond .ne 5, 3) := by decide +kernel
theorem dX3_together_11 : decode cX3_together 11 = .ok (.iconst (-1), 1) := by decide +kernel
theorem dX3_together_12 : decode cX3_together 12 = .ok (.ireturn, 1) := by decide +kernel
theorem dX3_together_13 : decode cX3_together 13 = .ok (.aload_n 0, 1) := by decide +kernel
theorem dX3_together_14 : decode cX3_together 14 = .ok (.getfield 19, 3) := by decide +kernel
theorem dX3_together_17 : decode cX3_together 17 = .ok (.invokevirtual 99, 3) := by decide +kernel
theorem dX3_together_20 : decode cX3_together 20 = .ok (.ifCond .eq 14, 3) := by decide +kernel
theorem dX3_together_23 : decode cX3_together 23 = .ok (.aload_n 0, 1) := by decide +kernel
theorem dX3_together_24 : decode cX3_together 24 = .ok (.getfield 19, 3) := by decide +kernel
theorem dX3_together_27 : decode cX3_together 27 = .ok (.iconst 2, 1) := by decide +kernel
theorem dX3_together_28 : decode cX3_together 28 = .ok (.invokevirtual 117, 3) := by decide +kernel
theorem dX3_together_31 : decode cX3_together 31 = .ok (.ifCond .le 6, 3) := by decide +kernel
theorem dX3_together_34 : decode cX3_together 34 = .ok (.bipush (-2), 2) := by decide +kernel
theorem dX3_together_36 : decode cX3_together 36 = .ok (.ireturn, 1) := by decide +kernel
theorem dX3_together_37 : decode cX3_together 37 = .ok (.aload_n 0, 1) := by decide +kernel
theorem dX3_together_38 : decode cX3_together 38 = .ok (.getfield 19, 3) := by decide +kernel
theorem dX3_together_41 : decode cX3_together 41 = .ok (.iload_n 1, 1) := by decide +kernel
theorem dX3_together_42 : decode cX3_together 42 = .ok (.invokevirtual 120, 3) := by decide +kernel
theorem dX3_together_45 : decode cX3_together 45 = .ok (.ireturn, 1) := by decide +kernel
set_option maxRecDepth 20000 in
theorem ggX3_at_X2_mayHavePlace : GoodIn wsX3_at wsX2_mayHavePlace := goodIn_r _ [6, 7, 8, 9, 10, 5, 11, 24, 25, 26, 27, 28, 29, 30, 31] (by decide +kernel) (by decide +kernel)
set_option maxRecDepth 20000 in
theorem gX3_at_X2_mayHavePlace : GoodIn wsX3_at (wsV RX3 96 RX2 yX2_mayHavePlace wsX2_mayHavePlace) := goodIn_app (goodIn_of _ (by decide +kernel)) ggX3_at_X2_mayHavePlace
set_option maxRecDepth 20000 in
theorem ggX3_at_X2_isThere : GoodIn wsX3_at wsX2_isThere := goodIn_r _ [11, 7, 24, 25, 26, 27, 28, 29, 30, 31] (by decide +kernel) (by decide +kernel)
set_option maxRecDepth 20000 in
theorem gX3_at_X2_isThere : GoodIn wsX3_at (wsV RX3 99 RX2 yX2_isThere wsX2_isThere) := goodIn_app (goodIn_of _ (by decide +kernel)) ggX3_at_X2_isThere
set_option maxRecDepth 20000 in
theorem ggX3_at_X2_sortAt : GoodIn wsX3_at wsX2_sortAt := goodIn_r _ [16, 17, 18, 19, 20, 21, 24, 25, 26, 27, 28, 29, 30, 31] (by decide +kernel) (by decide +kernel)
set_option maxRecDepth 20000 in
theorem gX3_at_X2_sortAt : GoodIn wsX3_at (wsV RX3 103 RX2 yX2_sortAt wsX2_sortAt) := goodIn_app (goodIn_of _ (by decide +kernel)) ggX3_at_X2_sortAt
theorem dX3_at_0 : decode cX3_at 0 = .ok (.aload_n 0, 1) := by decide +kernel
theorem dX3_at_1 : decode cX3_at 1 = .ok (.getfield 19, 3) := by decide +kernel
theorem dX3_at_4 : decode cX3_at 4 = .ok (.iload_n 1, 1) := by decide +kernel
theorem dX3_at_5 : decode cX3_at 5 = .ok (.invokevirtual 96, 3) := by decide +kernel
theorem dX3_at_8 : decode cX3_at 8 = .ok (.ifCond .ne 5, 3) := by decide +kernel
theorem dX3_at_11 : decode cX3_at 11 = .ok (.iconst (-1), 1) := by decide +kernel
theorem dX3_at_12 : decode cX3_at 12 = .ok (.ireturn, 1) := by decide +kernel
theorem dX3_at_13 : decode cX3_at 13 = .ok (.aload_n 0, 1) := by decide +kernel
theorem dX3_at_14 : decode cX3_at 14 = .ok (.getfield 19, 3) := by decide +kernel
theorem dX3_at_17 : decode cX3_at 17 = .ok (.invokevirtual 99, 3) := by decide +kernel
theorem dX3_at_20 : decode cX3_at 20 = .ok (.ifCond .eq 14, 3) := by decide +kernel
theorem dX3_at_23 : decode cX3_at 23 = .ok (.aload_n 0, 1) := by decide +kernel
theorem dX3_at_24 : decode cX3_at 24 = .ok (.getfield 19, 3) := by decide +kernel
theorem dX3_at_27 : decode cX3_at 27 = .ok (.iload_n 1, 1) := by decide +kernel
theorem dX3_at_28 : decode cX3_at 28 = .ok (.invokevirtual 103, 3) := by decide +kernel
theorem dX3_at_31 : decode cX3_at 31 = .ok (.goto 5, 3) := by decide +kernel
theorem dX3_at_34 : decode cX3_at 34 = .ok (.bipush (-2), 2) := by decide +kernel
theorem dX3_at_36 : decode cX3_at 36 = .ok (.ireturn, 1) := by decide +kernel
set_option maxRecDepth 20000 in
theorem ggX3_told_X3_isWithin : GoodIn wsX3_told wsX3_isWithin := goodIn_r _ [5] (by decide +kernel) (by decide +kernel)
set_option maxRecDepth 20000 in
theorem gX3_told_X3_isWithin : GoodIn wsX3_told (va_wsS RX3 23 yX3_isWithin wsX3_isWithin) := goodIn_app (goodIn_of _ (by decide +kernel)) ggX3_told_X3_isWithin
set_option maxRecDepth 20000 in
theorem ggX3_told_X2_isThere : GoodIn wsX3_told wsX2_isThere := goodIn_r _ [10, 11, 43, 44, 45, 46, 47, 48, 49, 50] (by decide +kernel) (by decide +kernel)
set_option maxRecDepth 20000 in
theorem gX3_told_X2_isThere : GoodIn wsX3_told (wsV RX3 99 RX2 yX2_isThere wsX2_isThere) := goodIn_app (goodIn_of _ (by decide +kernel)) ggX3_told_X2_isThere
set_option maxRecDepth 20000 in
theorem ggX3_told_X2_tell : GoodIn wsX3_told wsX2_tell := goodIn_r _ [15, 11, 16, 17, 18, 19, 20, 21, 22, 9, 23, 24, 25, 26, 27, 28, 29, 30, 31, 32, 33, 34, 35, 36, 37, 38, 39, 40, 43, 44, 45, 46, 47, 48, 49, 50] (by decide +kernel) (by decide +kernel)
set_option maxRecDepth 20000 in
theorem gX3_told_X2_tell : GoodIn wsX3_told (wsV RX3 123 RX2 yX2_tell wsX2_tell) := goodIn_app (goodIn_of _ (by decide +kernel)) ggX3_told_X2_tell
theorem dX3_told_0 : decode cX3_told 0 = .ok (.iload_n 1, 1) := by decide +kernel
theorem dX3_told_1 : decode cX3_told 1 = .ok (.iconst 0, 1) := by decide +kernel
theorem dX3_told_2 : decode cX3_told 2 = .ok (.bipush 7, 2) := by decide +kernel
theorem dX3_told_4 : decode cX3_told 4 = .ok (.invokestatic 23, 3) := by decide +kernel
theorem dX3_told_7 : decode cX3_told 7 = .ok (.ifCond .ne 5, 3) := by decide +kernel
theorem dX3_told_10 : decode cX3_told 10 = .ok (.iconst (-1), 1) := by decide +kernel
theorem dX3_told_11 : decode cX3_told 11 = .ok (.ireturn, 1) := by decide +kernel
theorem dX3_told_12 : decode cX3_told 12 = .ok (.aload_n 0, 1) := by decide +kernel
theorem dX3_told_13 : decode cX3_told 13 = .ok (.getfield 19, 3) := by decide +kernel
theorem dX3_told_16 : decode cX3_told 16 = .ok (.invokevirtual 99, 3) := by decide +kernel
theorem dX3_told_19 : decode cX3_told 19 = .ok (.ifCond .eq 14, 3) := by decide +kernel
theorem dX3_told_22 : decode cX3_told 22 = .ok (.aload_n 0, 1) := by decide +kernel
theorem dX3_told_23 : decode cX3_told 23 = .ok (.getfield 19, 3) := by decide +kernel
theorem dX3_told_26 : decode cX3_told 26 = .ok (.iload_n 1, 1) := by decide +kernel
theorem dX3_told_27 : decode cX3_told 27 = .ok (.invokevirtual 123, 3) := by decide +kernel
theorem dX3_told_30 : decode cX3_told 30 = .ok (.goto 5, 3) := by decide +kernel
theorem dX3_told_33 : decode cX3_told 33 = .ok (.bipush (-2), 2) := by decide +kernel
theorem dX3_told_35 : decode cX3_told 35 = .ok (.ireturn, 1) := by decide +kernel
theorem dX3_isWithin_0 : decode cX3_isWithin 0 = .ok (.iload_n 0, 1) := by decide +kernel
theorem dX3_isWithin_1 : decode cX3_isWithin 1 = .ok (.iload_n 1, 1) := by decide +kernel
theorem dX3_isWithin_2 : decode cX3_isWithin 2 = .ok (.if_icmp .lt 12, 3) := by decide +kernel
theorem dX3_isWithin_5 : decode cX3_isWithin 5 = .ok (.iload_n 0, 1) := by decide +kernel
theorem dX3_isWithin_6 : decode cX3_isWithin 6 = .ok (.iload_n 2, 1) := by decide +kernel
theorem dX3_isWithin_7 : decode cX3_isWithin 7 = .ok (.if_icmp .gt 7, 3) := by decide +kernel
theorem dX3_isWithin_10 : decode cX3_isWithin 10 = .ok (.iconst 1, 1) := by decide +kernel
theorem dX3_isWithin_11 : decode cX3_isWithin 11 = .ok (.goto 4, 3) := by decide +kernel
theorem dX3_isWithin_14 : decode cX3_isWithin 14 = .ok (.iconst 0, 1) := by decide +kernel
theorem dX3_isWithin_15 : decode cX3_isWithin 15 = .ok (.ireturn, 1) := by decide +kernel
theorem dX3_isTaken_0 : decode cX3_isTaken 0 = .ok (.iload_n 0, 1) := by decide +kernel
theorem dX3_isTaken_1 : decode cX3_isTaken 1 = .ok (.iload_n 1, 1) := by decide +kernel
theorem dX3_isTaken_2 : decode cX3_isTaken 2 = .ok (.ishr, 1) := by decide +kernel
theorem dX3_isTaken_3 : decode cX3_isTaken 3 = .ok (.iconst 1, 1) := by decide +kernel
theorem dX3_isTaken_4 : decode cX3_isTaken 4 = .ok (.iand, 1) := by decide +kernel
theorem dX3_isTaken_5 : decode cX3_isTaken 5 = .ok (.iconst 1, 1) := by decide +kernel
theorem dX3_isTaken_6 : decode cX3_isTaken 6 = .ok (.if_icmp .ne 7, 3) := by decide +kernel
theorem dX3_isTaken_9 : decode cX3_isTaken 9 = .ok (.iconst 1, 1) := by decide +kernel
theorem dX3_isTaken_10 : decode cX3_isTaken 10 = .ok (.goto 4, 3) := by decide +kernel
theorem dX3_isTaken_13 : decode cX3_isTaken 13 = .ok (.iconst 0, 1) := by decide +kernel
theorem dX3_isTaken_14 : decode cX3_isTaken 14 = .ok (.ireturn, 1) := by decide +kernel
set_option maxRecDepth 20000 in
theorem ggX3_partOfFraction_X3_greatestCommonDivisor : GoodIn wsX3_partOfFraction wsX3_greatestCommonDivisor := goodIn_r _ [4] (by decide +kernel) (by decide +kernel)
set_option maxRecDepth 20000 in
theorem gX3_partOfFraction_X3_greatestCommonDivisor : GoodIn wsX3_partOfFraction (va_wsS RX3 126 yX3_greatestCommonDivisor wsX3_greatestCommonDivisor) := goodIn_app (goodIn_of _ (by decide +kernel)) ggX3_partOfFraction_X3_greatestCommonDivisor
theorem dX3_partOfFraction_0 : decode cX3_partOfFraction 0 = .ok (.lload_n 0, 1) := by decide +kernel
theorem dX3_partOfFraction_1 : decode cX3_partOfFraction 1 = .ok (.lload_n 2, 1) := by decide +kernel
theorem dX3_partOfFraction_2 : decode cX3_partOfFraction 2 = .ok (.invokestatic 126, 3) := by decide +kernel
theorem dX3_partOfFraction_5 : decode cX3_partOfFraction 5 = .ok (.lstore 5, 2) := by decide +kernel
theorem dX3_partOfFraction_7 : decode cX3_partOfFraction 7 = .ok (.iload 4, 2) := by decide +kernel
theorem dX3_partOfFraction_9 : decode cX3_partOfFraction 9 = .ok (.ifCond .ne 7, 3) := by decide +kernel
theorem dX3_partOfFraction_12 : decode cX3_partOfFraction 12 = .ok (.lload_n 0, 1) := by decide +kernel
theorem dX3_partOfFraction_13 : decode cX3_partOfFraction 13 = .ok (.goto 4, 3) := by decide +kernel
theorem dX3_partOfFraction_16 : decode cX3_partOfFraction 16 = .ok (.lload_n 2, 1) := by decide +kernel
theorem dX3_partOfFraction_17 : decode cX3_partOfFraction 17 = .ok (.lstore 7, 2) := by decide +kernel
theorem dX3_partOfFraction_19 : decode cX3_partOfFraction 19 = .ok (.lload 5, 2) := by decide +kernel
theorem dX3_partOfFraction_21 : decode cX3_partOfFraction 21 = .ok (.lconst 0, 1) := by decide +kernel
theorem dX3_partOfFraction_22 : decode cX3_partOfFraction 22 = .ok (.lcmp, 1) := by decide +kernel
theorem dX3_partOfFraction_23 : decode cX3_partOfFraction 23 = .ok (.ifCond .le 11, 3) := by decide +kernel
theorem dX3_partOfFraction_26 : decode cX3_partOfFraction 26 = .ok (.lload 7, 2) := by decide +kernel
theorem dX3_partOfFraction_28 : decode cX3_partOfFraction 28 = .ok (.lload 5, 2) := by decide +kernel
theorem dX3_partOfFraction_30 : decode cX3_partOfFraction 30 = .ok (.ldiv, 1) := by decide +kernel
theorem dX3_partOfFraction_31 : decode cX3_partOfFraction 31 = .ok (.goto 5, 3) := by decide +kernel
theorem dX3_partOfFraction_34 : decode cX3_partOfFraction 34 = .ok (.lload 7, 2) := by decide +kernel
theorem dX3_partOfFraction_36 : decode cX3_partOfFraction 36 = .ok (.lreturn, 1) := by decide +kernel
theorem dX3_greatestCommonDivisor_0 : decode cX3_greatestCommonDivisor 0 = .ok (.lload_n 0, 1) := by decide +kernel
theorem dX3_greatestCommonDivisor_1 : decode cX3_greatestCommonDivisor 1 = .ok (.lstore 4, 2) := by decide +kernel
theorem dX3_greatestCommonDivisor_3 : decode cX3_greatestCommonDivisor 3 = .ok (.lload_n 2, 1) := by decide +kernel
theorem dX3_greatestCommonDivisor_4 : decode cX3_greatestCommonDivisor 4 = .ok (.lstore 6, 2) := by decide +kernel
theorem dX3_greatestCommonDivisor_6 : decode cX3_greatestCommonDivisor 6 = .ok (.iconst 0, 1) := by decide +kernel
theorem dX3_greatestCommonDivisor_7 : decode cX3_greatestCommonDivisor 7 = .ok (.istore 8, 2) := by decide +kernel
theorem dX3_greatestCommonDivisor_9 : decode cX3_greatestCommonDivisor 9 = .ok (.iload 8, 2) := by decide +kernel
theorem dX3_greatestCommonDivisor_11 : decode cX3_greatestCommonDivisor 11 = .ok (.bipush 100, 2) := by decide +kernel
theorem dX3_greatestCommonDivisor_13 : decode cX3_greatestCommonDivisor 13 = .ok (.if_icmp .ge 31, 3) := by decide +kernel
theorem dX3_greatestCommonDivisor_16 : decode cX3_greatestCommonDivisor 16 = .ok (.lload 6, 2) := by decide +kernel
theorem dX3_greatestCommonDivisor_18 : decode cX3_greatestCommonDivisor 18 = .ok (.lconst 0, 1) := by decide +kernel
theorem dX3_greatestCommonDivisor_19 : decode cX3_greatestCommonDivisor 19 = .ok (.lcmp, 1) := by decide +kernel
theorem dX3_greatestCommonDivisor_20 : decode cX3_greatestCommonDivisor 20 = .ok (.ifCond .eq 24, 3) := by decide +kernel
theorem dX3_greatestCommonDivisor_23 : decode cX3_greatestCommonDivisor 23 = .ok (.lload 4, 2) := by decide +kernel
theorem dX3_greatestCommonDivisor_25 : decode cX3_greatestCommonDivisor 25 = .ok (.lload 6, 2) := by decide +kernel
theorem dX3_greatestCommonDivisor_27 : decode cX3_greatestCommonDivisor 27 = .ok (.lrem, 1) := by decide +kernel
theorem dX3_greatestCommonDivisor_28 : decode cX3_greatestCommonDivisor 28 = .ok (.lstore 9, 2) := by decide +kernel
theorem dX3_greatestCommonDivisor_30 : decode cX3_greatestCommonDivisor 30 = .ok (.lload 6, 2) := by decide +kernel
theorem dX3_greatestCommonDivisor_32 : decode cX3_greatestCommonDivisor 32 = .ok (.lstore 4, 2) := by decide +kernel
theorem dX3_greatestCommonDivisor_34 : decode cX3_greatestCommonDivisor 34 = .ok (.lload 9, 2) := by decide +kernel
theorem dX3_greatestCommonDivisor_36 : decode cX3_greatestCommonDivisor 36 = .ok (.lstore 6, 2) := by decide +kernel
theorem dX3_greatestCommonDivisor_38 : decode cX3_greatestCommonDivisor 38 = .ok (.iinc 8 1, 3) := by decide +kernel
theorem dX3_greatestCommonDivisor_41 : decode cX3_greatestCommonDivisor 41 = .ok (.goto (-32), 3) := by decide +kernel
theorem dX3_greatestCommonDivisor_44 : decode cX3_greatestCommonDivisor 44 = .ok (.lload 4, 2) := by decide +kernel
theorem dX3_greatestCommonDivisor_46 : decode cX3_greatestCommonDivisor 46 = .ok (.lreturn, 1) := by decide +kernel
set_option maxRecDepth 20000 in
theorem ggX4_init_X4_fills : GoodIn wsX4_init wsX4_fills := goodIn_r _ [17, 8, 5, 6, 18, 19, 20, 16, 21, 22, 23, 24, 25, 26, 27, 28, 29, 30, 31, 32, 33, 34] (by decide +kernel) (by decide +kernel)
set_option maxRecDepth 20000 in
theorem gX4_init_X4_fills : GoodIn wsX4_init (wsV RX4 34 RX4 yX4_fills wsX4_fills) := goodIn_app (goodIn_of _ (by decide +kernel)) ggX4_init_X4_fills
theorem dX4_init_0 : decode cX4_init 0 = .ok (.aload_n 0, 1) := by decide +kernel
theorem dX4_init_1 : decode cX4_init 1 = .ok (.invokespecial 1, 3) := by decide +kernel
theorem dX4_init_4 : decode cX4_init 4 = .ok (.aload_n 0, 1) := by decide +kernel
theorem dX4_init_5 : decode cX4_init 5 = .ok (.iconst 1, 1) := by decide +kernel
theorem dX4_init_6 : decode cX4_init 6 = .ok (.putfield 7, 3) := by decide +kernel
theorem dX4_init_9 : decode cX4_init 9 = .ok (.aload_n 0, 1) := by decide +kernel
theorem dX4_init_10 : decode cX4_init 10 = .ok (.iconst 1, 1) := by decide +kernel
theorem dX4_init_11 : decode cX4_init 11 = .ok (.putfield 13, 3) := by decide +kernel
theorem dX4_init_14 : decode cX4_init 14 = .ok (.aload_n 0, 1) := by decide +kernel
theorem dX4_init_15 : decode cX4_init 15 = .ok (.iconst 1, 1) := by decide +kernel
theorem dX4_init_16 : decode cX4_init 16 = .ok (.putfield 16, 3) := by decide +kernel
theorem dX4_init_19 : decode cX4_init 19 = .ok (.aload_n 0, 1) := by decide +kernel
theorem dX4_init_20 : decode cX4_init 20 = .ok (.sipush 511, 3) := by decide +kernel
theorem dX4_init_23 : decode cX4_init 23 = .ok (.newarray .long, 2) := by decide +kernel
theorem dX4_init_25 : decode cX4_init 25 = .ok (.putfield 19, 3) := by decide +kernel
theorem dX4_init_28 : decode cX4_init 28 = .ok (.aload_n 0, 1) := by decide +kernel
theorem dX4_init_29 : decode cX4_init 29 = .ok (.lconst 1, 1) := by decide +kernel
theorem dX4_init_30 : decode cX4_init 30 = .ok (.putfield 23, 3) := by decide +kernel
theorem dX4_init_33 : decode cX4_init 33 = .ok (.aload_n 0, 1) := by decide +kernel
theorem dX4_init_34 : decode cX4_init 34 = .ok (.bipush 30, 2) := by decide +kernel
theorem dX4_init_36 : decode cX4_init 36 = .ok (.newarray .int, 2) := by decide +kernel
theorem dX4_init_38 : decode cX4_init 38 = .ok (.putfield 27, 3) := by decide +kernel
theorem dX4_init_41 : decode cX4_init 41 = .ok (.aload_n 0, 1) := by decide +kernel
theorem dX4_init_42 : decode cX4_init 42 = .ok (.bipush 30, 2) := by decide +kernel
theorem dX4_init_44 : decode cX4_init 44 = .ok (.newarray .int, 2) := by decide +kernel
theorem dX4_init_46 : decode cX4_init 46 = .ok (.putfield 31, 3) := by decide +kernel
theorem dX4_init_49 : decode cX4_init 49 = .ok (.aload_n 0, 1) := by decide +kernel
theorem dX4_init_50 : decode cX4_init 50 = .ok (.invokevirtual 34, 3) := by decide +kernel
theorem dX4_init_53 : decode cX4_init 53 = .ok (.return_, 1) := by decide +kernel
theorem dX4_in_0 : decode cX4_in 0 = .ok (.lload_n 0, 1) := by decide +kernel
theorem dX4_in_1 : decode cX4_in 1 = .ok (.lload_n 2, 1) := by decide +kernel
theorem dX4_in_2 : decode cX4_in 2 = .ok (.lcmp, 1) := by decide +kernel
theorem dX4_in_3 : decode cX4_in 3 = .ok (.ifCond .lt 14, 3) := by decide +kernel
theorem dX4_in_6 : decode cX4_in 6 = .ok (.lload_n 0, 1) := by decide +kernel
theorem dX4_in_7 : decode cX4_in 7 = .ok (.lload 4, 2) := by decide +kernel
theorem dX4_in_9 : decode cX4_in 9 = .ok (.lcmp, 1) := by decide +kernel
theorem dX4_in_10 : decode cX4_in 10 = .ok (.ifCond .gt 7, 3) := by decide +kernel
theorem dX4_in_13 : decode cX4_in 13 = .ok (.iconst 1, 1) := by decide +kernel
theorem dX4_in_14 : decode cX4_in 14 = .ok (.goto 4, 3) := by decide +kernel
theorem dX4_in_17 : decode cX4_in 17 = .ok (.iconst 0, 1) := by decide +kernel
theorem dX4_in_18 : decode cX4_in 18 = .ok (.ireturn, 1) := by decide +kernel
theorem dX4_weigh_0 : decode cX4_weigh 0 = .ok (.aload_n 0, 1) := by decide +kernel
theorem dX4_weigh_1 : decode cX4_weigh 1 = .ok (.getfield 19, 3) := by decide +kernel
theorem dX4_weigh_4 : decode cX4_weigh 4 = .ok (.iconst 1, 1) := by decide +kernel
theorem dX4_weigh_5 : decode cX4_weigh 5 = .ok (.iload_n 1, 1) := by decide +kernel
theorem dX4_weigh_6 : decode cX4_weigh 6 = .ok (.ishl, 1) := by decide +kernel
theorem dX4_weigh_7 : decode cX4_weigh 7 = .ok (.iconst 1, 1) := by decide +kernel
theorem dX4_weigh_8 : decode cX4_weigh 8 = .ok (.isub, 1) := by decide +kernel
theorem dX4_weigh_9 : decode cX4_weigh 9 = .ok (.iload_n 2, 1) := by decide +kernel
theorem dX4_weigh_10 : decode cX4_weigh 10 = .ok (.iadd, 1) := by decide +kernel
theorem dX4_weigh_11 : decode cX4_weigh 11 = .ok (.laload, 1) := by decide +kernel
theorem dX4_weigh_12 : decode cX4_weigh 12 = .ok (.lreturn, 1) := by decide +kernel
set_option maxRecDepth 20000 in
theorem ggX4_fills_X4_weigh : GoodIn wsX4_fills wsX4_weigh := goodIn_r _ [8, 1, 9, 10, 11, 12, 13, 14, 15, 16, 17, 18, 19, 20, 21] (by decide +kernel) (by decide +kernel)
set_option maxRecDepth 20000 in
theorem gX4_fills_X4_weigh : GoodIn wsX4_fills (wsV RX4 37 RX4 yX4_weigh wsX4_weigh) := goodIn_app (goodIn_of _ (by decide +kernel)) ggX4_fills_X4_weigh
theorem dX4_fills_0 : decode cX4_fills 0 = .ok (.aload_n 0, 1) := by decide +kernel
theorem dX4_fills_1 : decode cX4_fills 1 = .ok (.getfield 19, 3) := by decide +kernel
theorem dX4_fills_4 : decode cX4_fills 4 = .ok (.iconst 0, 1) := by decide +kernel
theorem dX4_fills_5 : decode cX4_fills 5 = .ok (.lconst 1, 1) := by decide +kernel
theorem dX4_fills_6 : decode cX4_fills 6 = .ok (.lastore, 1) := by decide +kernel
theorem dX4_fills_7 : decode cX4_fills 7 = .ok (.iconst 1, 1) := by decide +kernel
theorem dX4_fills_8 : decode cX4_fills 8 = .ok (.istore_n 1, 1) := by decide +kernel
theorem dX4_fills_9 : decode cX4_fills 9 = .ok (.iload_n 1, 1) := by decide +kernel
theorem dX4_fills_10 : decode cX4_fills 10 = .ok (.bipush 9, 2) := by decide +kernel
theorem dX4_fills_12 : decode cX4_fills 12 = .ok (.if_icmp .ge 166, 3) := by decide +kernel
theorem dX4_fills_15 : decode cX4_fills 15 = .ok (.iconst 0, 1) := by decide +kernel
theorem dX4_fills_16 : decode cX4_fills 16 = .ok (.istore_n 2, 1) := by decide +kernel
theorem dX4_fills_17 : decode cX4_fills 17 = .ok (.iload_n 2, 1) := by decide +kernel
theorem dX4_fills_18 : decode cX4_fills 18 = .ok (.iconst 1, 1) := by decide +kernel
theorem dX4_fills_19 : decode cX4_fills 19 = .ok (.iload_n 1, 1) := by decide +kernel
theorem dX4_fills_20 : decode cX4_fills 20 = .ok (.ishl, 1) := by decide +kernel
theorem dX4_fills_21 : decode cX4_fills 21 = .ok (.if_icmp .ge 151, 3) := by decide +kernel
theorem dX4_fills_24 : decode cX4_fills 24 = .ok (.iload_n 2, 1) := by decide +kernel
theorem dX4_fills_25 : decode cX4_fills 25 = .ok (.iconst 1, 1) := by decide +kernel
theorem dX4_fills_26 : decode cX4_fills 26 = .ok (.iand, 1) := by decide +kernel
theorem dX4_fills_27 : decode cX4_fills 27 = .ok (.ifCond .ne 23, 3) := by decide +kernel
theorem dX4_fills_30 : decode cX4_fills 30 = .ok (.aload_n 0, 1) := by decide +kernel
theorem dX4_fills_31 : decode cX4_fills 31 = .ok (.getfield 13, 3) := by decide +kernel
theorem dX4_fills_34 : decode cX4_fills 34 = .ok (.i2l, 1) := by decide +kernel
theorem dX4_fills_35 : decode cX4_fills 35 = .ok (.aload_n 0, 1) := by decide +kernel
theorem dX4_fills_36 : decode cX4_fills 36 = .ok (.iload_n 1, 1) := by decide +kernel
theorem dX4_fills_37 : decode cX4_fills 37 = .ok (.iconst 1, 1) := by decide +kernel
theorem dX4_fills_38 : decode cX4_fills 38 = .ok (.isub, 1) := by decide +kernel
theorem dX4_fills_39 : decode cX4_fills 39 = .ok (.iload_n 2, 1) := by decide +kernel
theorem dX4_fills_40 : decode cX4_fills 40 = .ok (.iconst 1, 1) := by decide +kernel
theorem dX4_fills_41 : decode cX4_fills 41 = .ok (.ishr, 1) := by decide +kernel
theorem dX4_fills_42 : decode cX4_fills 42 = .ok (.invokevirtual 37, 3) := by decide +kernel
theorem dX4_fills_45 : decode cX4_fills 45 = .ok (.lmul, 1) := by decide +kernel
theorem dX4_fills_46 : decode cX4_fills 46 = .ok (.lstore_n 3, 1) := by decide +kernel
theorem dX4_fills_47 : decode cX4_fills 47 = .ok (.goto 106, 3) := by decide +kernel
theorem dX4_fills_50 : decode cX4_fills 50 = .ok (.iload_n 2, 1) := by decide +kernel
theorem dX4_fills_51 : decode cX4_fills 51 = .ok (.iload_n 1, 1) := by decide +kernel
theorem dX4_fills_52 : decode cX4_fills 52 = .ok (.iconst 1, 1) := by decide +kernel
theorem dX4_fills_53 : decode cX4_fills 53 = .ok (.isub, 1) := by decide +kernel
theorem dX4_fills_54 : decode cX4_fills 54 = .ok (.ishr, 1) := by decide +kernel
theorem dX4_fills_55 : decode cX4_fills 55 = .ok (.iconst 1, 1) := by decide +kernel
theorem dX4_fills_56 : decode cX4_fills 56 = .ok (.iand, 1) := by decide +kernel
theorem dX4_fills_57 : decode cX4_fills 57 = .ok (.iconst 1, 1) := by decide +kernel
theorem dX4_fills_58 : decode cX4_fills 58 = .ok (.if_icmp .ne 29, 3) := by decide +kernel
theorem dX4_fills_61 : decode cX4_fills 61 = .ok (.aload_n 0, 1) := by decide +kernel
theorem dX4_fills_62 : decode cX4_fills 62 = .ok (.getfield 16, 3) := by decide +kernel
theorem dX4_fills_65 : decode cX4_fills 65 = .ok (.i2l, 1) := by decide +kernel
theorem dX4_fills_66 : decode cX4_fills 66 = .ok (.aload_n 0, 1) := by decide +kernel
theorem dX4_fills_67 : decode cX4_fills 67 = .ok (.iload_n 1, 1) := by decide +kernel
theorem dX4_fills_68 : decode cX4_fills 68 = .ok (.iconst 1, 1) := by decide +kernel
theorem dX4_fills_69 : decode cX4_fills 69 = .ok (.isub, 1) := by decide +kernel
theorem dX4_fills_70 : decode cX4_fills 70 = .ok (.iload_n 2, 1) := by decide +kernel
theorem dX4_fills_71 : decode cX4_fills 71 = .ok (.iconst 1, 1) := by decide +kernel
theorem dX4_fills_72 : decode cX4_fills 72 = .ok (.iload_n 1, 1) := by decide +kernel
theorem dX4_fills_73 : decode cX4_fills 73 = .ok (.iconst 1, 1) := by decide +kernel
theorem dX4_fills_74 : decode cX4_fills 74 = .ok (.isub, 1) := by decide +kernel
theorem dX4_fills_75 : decode cX4_fills 75 = .ok (.ishl, 1) := by decide +kernel
theorem dX4_fills_76 : decode cX4_fills 76 = .ok (.iconst 1, 1) := by decide +kernel
theorem dX4_fills_77 : decode cX4_fills 77 = .ok (.isub, 1) := by decide +kernel
theorem dX4_fills_78 : decode cX4_fills 78 = .ok (.iand, 1) := by decide +kernel
theorem dX4_fills_79 : decode cX4_fills 79 = .ok (.invokevirtual 37, 3) := by decide +kernel
theorem dX4_fills_82 : decode cX4_fills 82 = .ok (.lmul, 1) := by decide +kernel
theorem dX4_fills_83 : decode cX4_fills 83 = .ok (.lstore_n 3, 1) := by decide +kernel
theorem dX4_fills_84 : decode cX4_fills 84 = .ok (.goto 69, 3) := by decide +kernel
