set_option maxRecDepth 20000 in
theorem gX4_exchangeAllStrands_X4_exchangeStrands : GoodIn wsX4_exchangeAllStrands (wsV RX4 54 RX4 yX4_exchangeStrands wsX4_exchangeStrands) := goodIn_app (goodIn_of _ (by decide +kernel)) ggX4_exchangeAllStrands_X4_exchangeStrands
theorem dX4_exchangeAllStrands_0 : decode cX4_exchangeAllStrands 0 = .ok (.iconst 0, 1) := by decide +kernel
theorem dX4_exchangeAllStrands_1 : decode cX4_exchangeAllStrands 1 = .ok (.istore_n 1, 1) := by decide +kernel
theorem dX4_exchangeAllStrands_2 : decode cX4_exchangeAllStrands 2 = .ok (.iload_n 1, 1) := by decide +kernel
theorem dX4_exchangeAllStrands_3 : decode cX4_exchangeAllStrands 3 = .ok (.aload_n 0, 1) := by decide +kernel
theorem dX4_exchangeAllStrands_4 : decode cX4_exchangeAllStrands 4 = .ok (.getfield 18, 3) := by decide +kernel
theorem dX4_exchangeAllStrands_7 : decode cX4_exchangeAllStrands 7 = .ok (.if_icmp .ge 14, 3) := by decide +kernel
theorem dX4_exchangeAllStrands_10 : decode cX4_exchangeAllStrands 10 = .ok (.aload_n 0, 1) := by decide +kernel
theorem dX4_exchangeAllStrands_11 : decode cX4_exchangeAllStrands 11 = .ok (.iload_n 1, 1) := by decide +kernel
theorem dX4_exchangeAllStrands_12 : decode cX4_exchangeAllStrands 12 = .ok (.invokevirtual 54, 3) := by decide +kernel
theorem dX4_exchangeAllStrands_15 : decode cX4_exchangeAllStrands 15 = .ok (.iinc 1 1, 3) := by decide +kernel
theorem dX4_exchangeAllStrands_18 : decode cX4_exchangeAllStrands 18 = .ok (.goto (-16), 3) := by decide +kernel
theorem dX4_exchangeAllStrands_21 : decode cX4_exchangeAllStrands 21 = .ok (.return_, 1) := by decide +kernel
set_option maxRecDepth 20000 in
theorem ggX4_turnStrands_X4_beginPlacesAt : GoodIn wsX4_turnStrands wsX4_beginPlacesAt := goodIn_r _ [5, 6, 7, 8, 9, 4, 10, 11, 17, 18, 19] (by decide +kernel) (by decide +kernel)
set_option maxRecDepth 20000 in
theorem gX4_turnStrands_X4_beginPlacesAt : GoodIn wsX4_turnStrands (wsV RX4 46 RX4 yX4_beginPlacesAt wsX4_beginPlacesAt) := goodIn_app (goodIn_of _ (by decide +kernel)) ggX4_turnStrands_X4_beginPlacesAt
set_option maxRecDepth 20000 in
theorem ggX4_turnStrands_X4_flipSign : GoodIn wsX4_turnStrands wsX4_flipSign := goodIn_r _ [15, 16, 7, 8, 9, 4, 10, 11, 17, 18, 19] (by decide +kernel) (by decide +kernel)
set_option maxRecDepth 20000 in
theorem gX4_turnStrands_X4_flipSign : GoodIn wsX4_turnStrands (wsV RX4 50 RX4 yX4_flipSign wsX4_flipSign) := goodIn_app (goodIn_of _ (by decide +kernel)) ggX4_turnStrands_X4_flipSign
theorem dX4_turnStrands_0 : decode cX4_turnStrands 0 = .ok (.iload_n 2, 1) := by decide +kernel
theorem dX4_turnStrands_1 : decode cX4_turnStrands 1 = .ok (.ifCond .eq 9, 3) := by decide +kernel
theorem dX4_turnStrands_4 : decode cX4_turnStrands 4 = .ok (.aload_n 0, 1) := by decide +kernel
theorem dX4_turnStrands_5 : decode cX4_turnStrands 5 = .ok (.iload_n 1, 1) := by decide +kernel
theorem dX4_turnStrands_6 : decode cX4_turnStrands 6 = .ok (.iconst 2, 1) := by decide +kernel
theorem dX4_turnStrands_7 : decode cX4_turnStrands 7 = .ok (.invokevirtual 46, 3) := by decide +kernel
theorem dX4_turnStrands_10 : decode cX4_turnStrands 10 = .ok (.iload_n 2, 1) := by decide +kernel
theorem dX4_turnStrands_11 : decode cX4_turnStrands 11 = .ok (.iload_n 3, 1) := by decide +kernel
theorem dX4_turnStrands_12 : decode cX4_turnStrands 12 = .ok (.if_icmp .eq 8, 3) := by decide +kernel
theorem dX4_turnStrands_15 : decode cX4_turnStrands 15 = .ok (.aload_n 0, 1) := by decide +kernel
theorem dX4_turnStrands_16 : decode cX4_turnStrands 16 = .ok (.iload_n 1, 1) := by decide +kernel
theorem dX4_turnStrands_17 : decode cX4_turnStrands 17 = .ok (.invokevirtual 50, 3) := by decide +kernel
theorem dX4_turnStrands_20 : decode cX4_turnStrands 20 = .ok (.return_, 1) := by decide +kernel
set_option maxRecDepth 20000 in
theorem ggX4_flipSign_X4_has : GoodIn wsX4_flipSign wsX4_has := goodIn_r _ [6, 7, 8, 9, 10] (by decide +kernel) (by decide +kernel)
set_option maxRecDepth 20000 in
theorem gX4_flipSign_X4_has : GoodIn wsX4_flipSign (wsV RX4 22 RX4 yX4_has wsX4_has) := goodIn_app (goodIn_of _ (by decide +kernel)) ggX4_flipSign_X4_has
theorem dX4_flipSign_0 : decode cX4_flipSign 0 = .ok (.aload_n 0, 1) := by decide +kernel
theorem dX4_flipSign_1 : decode cX4_flipSign 1 = .ok (.iload_n 1, 1) := by decide +kernel
theorem dX4_flipSign_2 : decode cX4_flipSign 2 = .ok (.invokevirtual 22, 3) := by decide +kernel
theorem dX4_flipSign_5 : decode cX4_flipSign 5 = .ok (.ifCond .eq 16, 3) := by decide +kernel
theorem dX4_flipSign_8 : decode cX4_flipSign 8 = .ok (.aload_n 0, 1) := by decide +kernel
theorem dX4_flipSign_9 : decode cX4_flipSign 9 = .ok (.getfield 9, 3) := by decide +kernel
theorem dX4_flipSign_12 : decode cX4_flipSign 12 = .ok (.iload_n 1, 1) := by decide +kernel
theorem dX4_flipSign_13 : decode cX4_flipSign 13 = .ok (.aload_n 0, 1) := by decide +kernel
theorem dX4_flipSign_14 : decode cX4_flipSign 14 = .ok (.getfield 9, 3) := by decide +kernel
theorem dX4_flipSign_17 : decode cX4_flipSign 17 = .ok (.iload_n 1, 1) := by decide +kernel
theorem dX4_flipSign_18 : decode cX4_flipSign 18 = .ok (.iaload, 1) := by decide +kernel
theorem dX4_flipSign_19 : decode cX4_flipSign 19 = .ok (.ineg, 1) := by decide +kernel
theorem dX4_flipSign_20 : decode cX4_flipSign 20 = .ok (.iastore, 1) := by decide +kernel
theorem dX4_flipSign_21 : decode cX4_flipSign 21 = .ok (.return_, 1) := by decide +kernel
set_option maxRecDepth 20000 in
theorem ggX4_beginPlacesAt_X4_has : GoodIn wsX4_beginPlacesAt wsX4_has := goodIn_r _ [6, 7, 8, 9, 10] (by decide +kernel) (by decide +kernel)
set_option maxRecDepth 20000 in
theorem gX4_beginPlacesAt_X4_has : GoodIn wsX4_beginPlacesAt (wsV RX4 22 RX4 yX4_has wsX4_has) := goodIn_app (goodIn_of _ (by decide +kernel)) ggX4_beginPlacesAt_X4_has
theorem dX4_beginPlacesAt_0 : decode cX4_beginPlacesAt 0 = .ok (.aload_n 0, 1) := by decide +kernel
theorem dX4_beginPlacesAt_1 : decode cX4_beginPlacesAt 1 = .ok (.iload_n 1, 1) := by decide +kernel
theorem dX4_beginPlacesAt_2 : decode cX4_beginPlacesAt 2 = .ok (.invokevirtual 22, 3) := by decide +kernel
theorem dX4_beginPlacesAt_5 : decode cX4_beginPlacesAt 5 = .ok (.ifCond .ne 4, 3) := by decide +kernel
theorem dX4_beginPlacesAt_8 : decode cX4_beginPlacesAt 8 = .ok (.return_, 1) := by decide +kernel
theorem dX4_beginPlacesAt_9 : decode cX4_beginPlacesAt 9 = .ok (.iconst 4, 1) := by decide +kernel
theorem dX4_beginPlacesAt_10 : decode cX4_beginPlacesAt 10 = .ok (.iload_n 1, 1) := by decide +kernel
theorem dX4_beginPlacesAt_11 : decode cX4_beginPlacesAt 11 = .ok (.imul, 1) := by decide +kernel
theorem dX4_beginPlacesAt_12 : decode cX4_beginPlacesAt 12 = .ok (.istore_n 3, 1) := by decide +kernel
theorem dX4_beginPlacesAt_13 : decode cX4_beginPlacesAt 13 = .ok (.iconst 0, 1) := by decide +kernel
theorem dX4_beginPlacesAt_14 : decode cX4_beginPlacesAt 14 = .ok (.istore 4, 2) := by decide +kernel
theorem dX4_beginPlacesAt_16 : decode cX4_beginPlacesAt 16 = .ok (.iload 4, 2) := by decide +kernel
theorem dX4_beginPlacesAt_18 : decode cX4_beginPlacesAt 18 = .ok (.iload_n 2, 1) := by decide +kernel
theorem dX4_beginPlacesAt_19 : decode cX4_beginPlacesAt 19 = .ok (.if_icmp .ge 73, 3) := by decide +kernel
theorem dX4_beginPlacesAt_22 : decode cX4_beginPlacesAt 22 = .ok (.aload_n 0, 1) := by decide +kernel
theorem dX4_beginPlacesAt_23 : decode cX4_beginPlacesAt 23 = .ok (.getfield 15, 3) := by decide +kernel
theorem dX4_beginPlacesAt_26 : decode cX4_beginPlacesAt 26 = .ok (.iload_n 3, 1) := by decide +kernel
theorem dX4_beginPlacesAt_27 : decode cX4_beginPlacesAt 27 = .ok (.iaload, 1) := by decide +kernel
theorem dX4_beginPlacesAt_28 : decode cX4_beginPlacesAt 28 = .ok (.istore 5, 2) := by decide +kernel
theorem dX4_beginPlacesAt_30 : decode cX4_beginPlacesAt 30 = .ok (.aload_n 0, 1) := by decide +kernel
theorem dX4_beginPlacesAt_31 : decode cX4_beginPlacesAt 31 = .ok (.getfield 15, 3) := by decide +kernel
theorem dX4_beginPlacesAt_34 : decode cX4_beginPlacesAt 34 = .ok (.iload_n 3, 1) := by decide +kernel
theorem dX4_beginPlacesAt_35 : decode cX4_beginPlacesAt 35 = .ok (.aload_n 0, 1) := by decide +kernel
theorem dX4_beginPlacesAt_36 : decode cX4_beginPlacesAt 36 = .ok (.getfield 15, 3) := by decide +kernel
theorem dX4_beginPlacesAt_39 : decode cX4_beginPlacesAt 39 = .ok (.iload_n 3, 1) := by decide +kernel
theorem dX4_beginPlacesAt_40 : decode cX4_beginPlacesAt 40 = .ok (.iconst 1, 1) := by decide +kernel
theorem dX4_beginPlacesAt_41 : decode cX4_beginPlacesAt 41 = .ok (.iadd, 1) := by decide +kernel
theorem dX4_beginPlacesAt_42 : decode cX4_beginPlacesAt 42 = .ok (.iaload, 1) := by decide +kernel
theorem dX4_beginPlacesAt_43 : decode cX4_beginPlacesAt 43 = .ok (.iastore, 1) := by decide +kernel
theorem dX4_beginPlacesAt_44 : decode cX4_beginPlacesAt 44 = .ok (.aload_n 0, 1) := by decide +kernel
theorem dX4_beginPlacesAt_45 : decode cX4_beginPlacesAt 45 = .ok (.getfield 15, 3) := by decide +kernel
theorem dX4_beginPlacesAt_48 : decode cX4_beginPlacesAt 48 = .ok (.iload_n 3, 1) := by decide +kernel
theorem dX4_beginPlacesAt_49 : decode cX4_beginPlacesAt 49 = .ok (.iconst 1, 1) := by decide +kernel
theorem dX4_beginPlacesAt_50 : decode cX4_beginPlacesAt 50 = .ok (.iadd, 1) := by decide +kernel
theorem dX4_beginPlacesAt_51 : decode cX4_beginPlacesAt 51 = .ok (.aload_n 0, 1) := by decide +kernel
theorem dX4_beginPlacesAt_52 : decode cX4_beginPlacesAt 52 = .ok (.getfield 15, 3) := by decide +kernel
theorem dX4_beginPlacesAt_55 : decode cX4_beginPlacesAt 55 = .ok (.iload_n 3, 1) := by decide +kernel
theorem dX4_beginPlacesAt_56 : decode cX4_beginPlacesAt 56 = .ok (.iconst 2, 1) := by decide +kernel
theorem dX4_beginPlacesAt_57 : decode cX4_beginPlacesAt 57 = .ok (.iadd, 1) := by decide +kernel
theorem dX4_beginPlacesAt_58 : decode cX4_beginPlacesAt 58 = .ok (.iaload, 1) := by decide +kernel
theorem dX4_beginPlacesAt_59 : decode cX4_beginPlacesAt 59 = .ok (.iastore, 1) := by decide +kernel
theorem dX4_beginPlacesAt_60 : decode cX4_beginPlacesAt 60 = .ok (.aload_n 0, 1) := by decide +kernel
theorem dX4_beginPlacesAt_61 : decode cX4_beginPlacesAt 61 = .ok (.getfield 15, 3) := by decide +kernel
theorem dX4_beginPlacesAt_64 : decode cX4_beginPlacesAt 64 = .ok (.iload_n 3, 1) := by decide +kernel
theorem dX4_beginPlacesAt_65 : decode cX4_beginPlacesAt 65 = .ok (.iconst 2, 1) := by decide +kernel
theorem dX4_beginPlacesAt_66 : decode cX4_beginPlacesAt 66 = .ok (.iadd, 1) := by decide +kernel
theorem dX4_beginPlacesAt_67 : decode cX4_beginPlacesAt 67 = .ok (.aload_n 0, 1) := by decide +kernel
theorem dX4_beginPlacesAt_68 : decode cX4_beginPlacesAt 68 = .ok (.getfield 15, 3) := by decide +kernel
theorem dX4_beginPlacesAt_71 : decode cX4_beginPlacesAt 71 = .ok (.iload_n 3, 1) := by decide +kernel
theorem dX4_beginPlacesAt_72 : decode cX4_beginPlacesAt 72 = .ok (.iconst 3, 1) := by decide +kernel
theorem dX4_beginPlacesAt_73 : decode cX4_beginPlacesAt 73 = .ok (.iadd, 1) := by decide +kernel
theorem dX4_beginPlacesAt_74 : decode cX4_beginPlacesAt 74 = .ok (.iaload, 1) := by decide +kernel
theorem dX4_beginPlacesAt_75 : decode cX4_beginPlacesAt 75 = .ok (.iastore, 1) := by decide +kernel
theorem dX4_beginPlacesAt_76 : decode cX4_beginPlacesAt 76 = .ok (.aload_n 0, 1) := by decide +kernel
theorem dX4_beginPlacesAt_77 : decode cX4_beginPlacesAt 77 = .ok (.getfield 15, 3) := by decide +kernel
theorem dX4_beginPlacesAt_80 : decode cX4_beginPlacesAt 80 = .ok (.iload_n 3, 1) := by decide +kernel
theorem dX4_beginPlacesAt_81 : decode cX4_beginPlacesAt 81 = .ok (.iconst 3, 1) := by decide +kernel
theorem dX4_beginPlacesAt_82 : decode cX4_beginPlacesAt 82 = .ok (.iadd, 1) := by decide +kernel
theorem dX4_beginPlacesAt_83 : decode cX4_beginPlacesAt 83 = .ok (.iload 5, 2) := by decide +kernel
theorem dX4_beginPlacesAt_85 : decode cX4_beginPlacesAt 85 = .ok (.iastore, 1) := by decide +kernel
theorem dX4_beginPlacesAt_86 : decode cX4_beginPlacesAt 86 = .ok (.iinc 4 1, 3) := by decide +kernel
theorem dX4_beginPlacesAt_89 : decode cX4_beginPlacesAt 89 = .ok (.goto (-73), 3) := by decide +kernel
theorem dX4_beginPlacesAt_92 : decode cX4_beginPlacesAt 92 = .ok (.return_, 1) := by decide +kernel
set_option maxRecDepth 20000 in
theorem ggX4_smoothAway_X4_has : GoodIn wsX4_smoothAway wsX4_has := goodIn_r _ [5, 6, 50, 51, 52] (by decide +kernel) (by decide +kernel)
set_option maxRecDepth 20000 in
theorem gX4_smoothAway_X4_has : GoodIn wsX4_smoothAway (wsV RX4 22 RX4 yX4_has wsX4_has) := goodIn_app (goodIn_of _ (by decide +kernel)) ggX4_smoothAway_X4_has
set_option maxRecDepth 20000 in
theorem ggX4_smoothAway_X4_lowerIn : GoodIn wsX4_smoothAway wsX4_lowerIn := goodIn_r _ [9] (by decide +kernel) (by decide +kernel)
set_option maxRecDepth 20000 in
theorem gX4_smoothAway_X4_lowerIn : GoodIn wsX4_smoothAway (va_wsS RX4 57 yX4_lowerIn wsX4_lowerIn) := goodIn_app (goodIn_of _ (by decide +kernel)) ggX4_smoothAway_X4_lowerIn
set_option maxRecDepth 20000 in
theorem ggX4_smoothAway_X4_label : GoodIn wsX4_smoothAway wsX4_label := goodIn_r _ [13, 14, 15, 16, 17, 4, 18, 6, 50, 51, 52] (by decide +kernel) (by decide +kernel)
set_option maxRecDepth 20000 in
theorem gX4_smoothAway_X4_label : GoodIn wsX4_smoothAway (wsV RX4 60 RX4 yX4_label wsX4_label) := goodIn_app (goodIn_of _ (by decide +kernel)) ggX4_smoothAway_X4_label
set_option maxRecDepth 20000 in
theorem ggX4_smoothAway_X4_upperOut : GoodIn wsX4_smoothAway wsX4_upperOut := goodIn_r _ [22, 23, 24, 25, 4, 26, 27, 1, 2, 3, 5, 6, 50, 51, 52] (by decide +kernel) (by decide +kernel)
set_option maxRecDepth 20000 in
theorem gX4_smoothAway_X4_upperOut : GoodIn wsX4_smoothAway (wsV RX4 37 RX4 yX4_upperOut wsX4_upperOut) := goodIn_app (goodIn_of _ (by decide +kernel)) ggX4_smoothAway_X4_upperOut
set_option maxRecDepth 20000 in
theorem ggX4_smoothAway_X4_joinEdges : GoodIn wsX4_smoothAway wsX4_joinEdges := goodIn_r _ [31, 32, 33, 34, 35, 36, 37, 38, 14, 15, 16, 17, 4, 18, 6, 50, 51, 52] (by decide +kernel) (by decide +kernel)
set_option maxRecDepth 20000 in
theorem gX4_smoothAway_X4_joinEdges : GoodIn wsX4_smoothAway (wsV RX4 63 RX4 yX4_joinEdges wsX4_joinEdges) := goodIn_app (goodIn_of _ (by decide +kernel)) ggX4_smoothAway_X4_joinEdges
set_option maxRecDepth 20000 in
theorem ggX4_smoothAway_X4_upperIn : GoodIn wsX4_smoothAway wsX4_upperIn := goodIn_r _ [42, 23, 24, 25, 4, 26, 27, 1, 2, 3, 5, 6, 50, 51, 52] (by decide +kernel) (by decide +kernel)
set_option maxRecDepth 20000 in
theorem gX4_smoothAway_X4_upperIn : GoodIn wsX4_smoothAway (wsV RX4 43 RX4 yX4_upperIn wsX4_upperIn) := goodIn_app (goodIn_of _ (by decide +kernel)) ggX4_smoothAway_X4_upperIn
set_option maxRecDepth 20000 in
theorem ggX4_smoothAway_X4_lowerOut : GoodIn wsX4_smoothAway wsX4_lowerOut := goodIn_r _ [45] (by decide +kernel) (by decide +kernel)
set_option maxRecDepth 20000 in
theorem gX4_smoothAway_X4_lowerOut : GoodIn wsX4_smoothAway (va_wsS RX4 34 yX4_lowerOut wsX4_lowerOut) := goodIn_app (goodIn_of _ (by decide +kernel)) ggX4_smoothAway_X4_lowerOut
set_option maxRecDepth 20000 in
theorem ggX4_smoothAway_X4_dropCrossing : GoodIn wsX4_smoothAway wsX4_dropCrossing := goodIn_r _ [49, 6, 27, 14, 15, 16, 17, 4, 18, 50, 51, 52] (by decide +kernel) (by decide +kernel)
set_option maxRecDepth 20000 in
theorem gX4_smoothAway_X4_dropCrossing : GoodIn wsX4_smoothAway (wsV RX4 67 RX4 yX4_dropCrossing wsX4_dropCrossing) := goodIn_app (goodIn_of _ (by decide +kernel)) ggX4_smoothAway_X4_dropCrossing
theorem dX4_smoothAway_0 : decode cX4_smoothAway 0 = .ok (.aload_n 0, 1) := by decide +kernel
theorem dX4_smoothAway_1 : decode cX4_smoothAway 1 = .ok (.iload_n 1, 1) := by decide +kernel
theorem dX4_smoothAway_2 : decode cX4_smoothAway 2 = .ok (.invokevirtual 22, 3) := by decide +kernel
theorem dX4_smoothAway_5 : decode cX4_smoothAway 5 = .ok (.ifCond .ne 5, 3) := by decide +kernel
theorem dX4_smoothAway_8 : decode cX4_smoothAway 8 = .ok (.iconst 0, 1) := by decide +kernel
theorem dX4_smoothAway_9 : decode cX4_smoothAway 9 = .ok (.ireturn, 1) := by decide +kernel
theorem dX4_smoothAway_10 : decode cX4_smoothAway 10 = .ok (.iconst 0, 1) := by decide +kernel
theorem dX4_smoothAway_11 : decode cX4_smoothAway 11 = .ok (.istore_n 2, 1) := by decide +kernel
theorem dX4_smoothAway_12 : decode cX4_smoothAway 12 = .ok (.iload_n 2, 1) := by decide +kernel
theorem dX4_smoothAway_13 : decode cX4_smoothAway 13 = .ok (.aload_n 0, 1) := by decide +kernel
theorem dX4_smoothAway_14 : decode cX4_smoothAway 14 = .ok (.aload_n 0, 1) := by decide +kernel
theorem dX4_smoothAway_15 : decode cX4_smoothAway 15 = .ok (.iload_n 1, 1) := by decide +kernel
theorem dX4_smoothAway_16 : decode cX4_smoothAway 16 = .ok (.invokestatic 57, 3) := by decide +kernel
theorem dX4_smoothAway_19 : decode cX4_smoothAway 19 = .ok (.invokevirtual 60, 3) := by decide +kernel
theorem dX4_smoothAway_22 : decode cX4_smoothAway 22 = .ok (.aload_n 0, 1) := by decide +kernel
theorem dX4_smoothAway_23 : decode cX4_smoothAway 23 = .ok (.aload_n 0, 1) := by decide +kernel
theorem dX4_smoothAway_24 : decode cX4_smoothAway 24 = .ok (.iload_n 1, 1) := by decide +kernel
theorem dX4_smoothAway_25 : decode cX4_smoothAway 25 = .ok (.invokevirtual 37, 3) := by decide +kernel
theorem dX4_smoothAway_28 : decode cX4_smoothAway 28 = .ok (.invokevirtual 60, 3) := by decide +kernel
theorem dX4_smoothAway_31 : decode cX4_smoothAway 31 = .ok (.invokevirtual 63, 3) := by decide +kernel
theorem dX4_smoothAway_34 : decode cX4_smoothAway 34 = .ok (.iadd, 1) := by decide +kernel
theorem dX4_smoothAway_35 : decode cX4_smoothAway 35 = .ok (.istore_n 2, 1) := by decide +kernel
theorem dX4_smoothAway_36 : decode cX4_smoothAway 36 = .ok (.iload_n 2, 1) := by decide +kernel
theorem dX4_smoothAway_37 : decode cX4_smoothAway 37 = .ok (.aload_n 0, 1) := by decide +kernel
theorem dX4_smoothAway_38 : decode cX4_smoothAway 38 = .ok (.aload_n 0, 1) := by decide +kernel
theorem dX4_smoothAway_39 : decode cX4_smoothAway 39 = .ok (.aload_n 0, 1) := by decide +kernel
theorem dX4_smoothAway_40 : decode cX4_smoothAway 40 = .ok (.iload_n 1, 1) := by decide +kernel
theorem dX4_smoothAway_41 : decode cX4_smoothAway 41 = .ok (.invokevirtual 43, 3) := by decide +kernel
theorem dX4_smoothAway_44 : decode cX4_smoothAway 44 = .ok (.invokevirtual 60, 3) := by decide +kernel
theorem dX4_smoothAway_47 : decode cX4_smoothAway 47 = .ok (.aload_n 0, 1) := by decide +kernel
theorem dX4_smoothAway_48 : decode cX4_smoothAway 48 = .ok (.iload_n 1, 1) := by decide +kernel
theorem dX4_smoothAway_49 : decode cX4_smoothAway 49 = .ok (.invokestatic 34, 3) := by decide +kernel
theorem dX4_smoothAway_52 : decode cX4_smoothAway 52 = .ok (.invokevirtual 60, 3) := by decide +kernel
theorem dX4_smoothAway_55 : decode cX4_smoothAway 55 = .ok (.invokevirtual 63, 3) := by decide +kernel
theorem dX4_smoothAway_58 : decode cX4_smoothAway 58 = .ok (.iadd, 1) := by decide +kernel
theorem dX4_smoothAway_59 : decode cX4_smoothAway 59 = .ok (.istore_n 2, 1) := by decide +kernel
theorem dX4_smoothAway_60 : decode cX4_smoothAway 60 = .ok (.aload_n 0, 1) := by decide +kernel
theorem dX4_smoothAway_61 : decode cX4_smoothAway 61 = .ok (.iload_n 1, 1) := by decide +kernel
theorem dX4_smoothAway_62 : decode cX4_smoothAway 62 = .ok (.invokevirtual 67, 3) := by decide +kernel
theorem dX4_smoothAway_65 : decode cX4_smoothAway 65 = .ok (.iload_n 2, 1) := by decide +kernel
theorem dX4_smoothAway_66 : decode cX4_smoothAway 66 = .ok (.ireturn, 1) := by decide +kernel
set_option maxRecDepth 20000 in
theorem ggX4_joinEdges_X4_spots : GoodIn wsX4_joinEdges wsX4_spots := goodIn_r _ [13, 14, 15, 16, 17] (by decide +kernel) (by decide +kernel)
set_option maxRecDepth 20000 in
theorem gX4_joinEdges_X4_spots : GoodIn wsX4_joinEdges (wsV RX4 26 RX4 yX4_spots wsX4_spots) := goodIn_app (goodIn_of _ (by decide +kernel)) ggX4_joinEdges_X4_spots
theorem dX4_joinEdges_0 : decode cX4_joinEdges 0 = .ok (.iload_n 1, 1) := by decide +kernel
theorem dX4_joinEdges_1 : decode cX4_joinEdges 1 = .ok (.iload_n 2, 1) := by decide +kernel
theorem dX4_joinEdges_2 : decode cX4_joinEdges 2 = .ok (.if_icmp .ne 5, 3) := by decide +kernel
theorem dX4_joinEdges_5 : decode cX4_joinEdges 5 = .ok (.iconst 1, 1) := by decide +kernel
theorem dX4_joinEdges_6 : decode cX4_joinEdges 6 = .ok (.ireturn, 1) := by decide +kernel
theorem dX4_joinEdges_7 : decode cX4_joinEdges 7 = .ok (.iload_n 1, 1) := by decide +kernel
theorem dX4_joinEdges_8 : decode cX4_joinEdges 8 = .ok (.iload_n 2, 1) := by decide +kernel
theorem dX4_joinEdges_9 : decode cX4_joinEdges 9 = .ok (.invokestatic 70, 3) := by decide +kernel
theorem dX4_joinEdges_12 : decode cX4_joinEdges 12 = .ok (.istore_n 3, 1) := by decide +kernel
theorem dX4_joinEdges_13 : decode cX4_joinEdges 13 = .ok (.iload_n 1, 1) := by decide +kernel
theorem dX4_joinEdges_14 : decode cX4_joinEdges 14 = .ok (.iload_n 2, 1) := by decide +kernel
theorem dX4_joinEdges_15 : decode cX4_joinEdges 15 = .ok (.invokestatic 75, 3) := by decide +kernel
theorem dX4_joinEdges_18 : decode cX4_joinEdges 18 = .ok (.istore 4, 2) := by decide +kernel
theorem dX4_joinEdges_20 : decode cX4_joinEdges 20 = .ok (.iconst 0, 1) := by decide +kernel
theorem dX4_joinEdges_21 : decode cX4_joinEdges 21 = .ok (.istore 5, 2) := by decide +kernel
theorem dX4_joinEdges_23 : decode cX4_joinEdges 23 = .ok (.iload 5, 2) := by decide +kernel
theorem dX4_joinEdges_25 : decode cX4_joinEdges 25 = .ok (.aload_n 0, 1) := by decide +kernel
theorem dX4_joinEdges_26 : decode cX4_joinEdges 26 = .ok (.invokevirtual 26, 3) := by decide +kernel
theorem dX4_joinEdges_29 : decode cX4_joinEdges 29 = .ok (.if_icmp .ge 29, 3) := by decide +kernel
theorem dX4_joinEdges_32 : decode cX4_joinEdges 32 = .ok (.aload_n 0, 1) := by decide +kernel
theorem dX4_joinEdges_33 : decode cX4_joinEdges 33 = .ok (.getfield 15, 3) := by decide +kernel
theorem dX4_joinEdges_36 : decode cX4_joinEdges 36 = .ok (.iload 5, 2) := by decide +kernel
theorem dX4_joinEdges_38 : decode cX4_joinEdges 38 = .ok (.iaload, 1) := by decide +kernel
theorem dX4_joinEdges_39 : decode cX4_joinEdges 39 = .ok (.iload 4, 2) := by decide +kernel
theorem dX4_joinEdges_41 : decode cX4_joinEdges 41 = .ok (.if_icmp .ne 11, 3) := by decide +kernel
theorem dX4_joinEdges_44 : decode cX4_joinEdges 44 = .ok (.aload_n 0, 1) := by decide +kernel
theorem dX4_joinEdges_45 : decode cX4_joinEdges 45 = .ok (.getfield 15, 3) := by decide +kernel
theorem dX4_joinEdges_48 : decode cX4_joinEdges 48 = .ok (.iload 5, 2) := by decide +kernel
theorem dX4_joinEdges_50 : decode cX4_joinEdges 50 = .ok (.iload_n 3, 1) := by decide +kernel
theorem dX4_joinEdges_51 : decode cX4_joinEdges 51 = .ok (.iastore, 1) := by decide +kernel
theorem dX4_joinEdges_52 : decode cX4_joinEdges 52 = .ok (.iinc 5 1, 3) := by decide +kernel
theorem dX4_joinEdges_55 : decode cX4_joinEdges 55 = .ok (.goto (-32), 3) := by decide +kernel
theorem dX4_joinEdges_58 : decode cX4_joinEdges 58 = .ok (.iconst 0, 1) := by decide +kernel
theorem dX4_joinEdges_59 : decode cX4_joinEdges 59 = .ok (.ireturn, 1) := by decide +kernel
set_option maxRecDepth 20000 in
theorem ggX4_dropCrossing_X4_spots : GoodIn wsX4_dropCrossing wsX4_spots := goodIn_r _ [8, 1, 9, 10, 11] (by decide +kernel) (by decide +kernel)
set_option maxRecDepth 20000 in
theorem gX4_dropCrossing_X4_spots : GoodIn wsX4_dropCrossing (wsV RX4 26 RX4 yX4_spots wsX4_spots) := goodIn_app (goodIn_of _ (by decide +kernel)) ggX4_dropCrossing_X4_spots
theorem dX4_dropCrossing_0 : decode cX4_dropCrossing 0 = .ok (.iload_n 1, 1) := by decide +kernel
theorem dX4_dropCrossing_1 : decode cX4_dropCrossing 1 = .ok (.iconst 1, 1) := by decide +kernel
theorem dX4_dropCrossing_2 : decode cX4_dropCrossing 2 = .ok (.iadd, 1) := by decide +kernel
theorem dX4_dropCrossing_3 : decode cX4_dropCrossing 3 = .ok (.istore_n 2, 1) := by decide +kernel
theorem dX4_dropCrossing_4 : decode cX4_dropCrossing 4 = .ok (.iload_n 2, 1) := by decide +kernel
theorem dX4_dropCrossing_5 : decode cX4_dropCrossing 5 = .ok (.aload_n 0, 1) := by decide +kernel
theorem dX4_dropCrossing_6 : decode cX4_dropCrossing 6 = .ok (.getfield 18, 3) := by decide +kernel
theorem dX4_dropCrossing_9 : decode cX4_dropCrossing 9 = .ok (.if_icmp .ge 23, 3) := by decide +kernel
theorem dX4_dropCrossing_12 : decode cX4_dropCrossing 12 = .ok (.aload_n 0, 1) := by decide +kernel
theorem dX4_dropCrossing_13 : decode cX4_dropCrossing 13 = .ok (.getfield 9, 3) := by decide +kernel
theorem dX4_dropCrossing_16 : decode cX4_dropCrossing 16 = .ok (.iload_n 2, 1) := by decide +kernel
theorem dX4_dropCrossing_17 : decode cX4_dropCrossing 17 = .ok (.iconst 1, 1) := by decide +kernel
theorem dX4_dropCrossing_18 : decode cX4_dropCrossing 18 = .ok (.isub, 1) := by decide +kernel
theorem dX4_dropCrossing_19 : decode cX4_dropCrossing 19 = .ok (.aload_n 0, 1) := by decide +kernel
theorem dX4_dropCrossing_20 : decode cX4_dropCrossing 20 = .ok (.getfield 9, 3) := by decide +kernel
theorem dX4_dropCrossing_23 : decode cX4_dropCrossing 23 = .ok (.iload_n 2, 1) := by decide +kernel
theorem dX4_dropCrossing_24 : decode cX4_dropCrossing 24 = .ok (.iaload, 1) := by decide +kernel
theorem dX4_dropCrossing_25 : decode cX4_dropCrossing 25 = .ok (.iastore, 1) := by decide +kernel
theorem dX4_dropCrossing_26 : decode cX4_dropCrossing 26 = .ok (.iinc 2 1, 3) := by decide +kernel
theorem dX4_dropCrossing_29 : decode cX4_dropCrossing 29 = .ok (.goto (-25), 3) := by decide +kernel
theorem dX4_dropCrossing_32 : decode cX4_dropCrossing 32 = .ok (.iconst 4, 1) := by decide +kernel
theorem dX4_dropCrossing_33 : decode cX4_dropCrossing 33 = .ok (.iload_n 1, 1) := by decide +kernel
theorem dX4_dropCrossing_34 : decode cX4_dropCrossing 34 = .ok (.imul, 1) := by decide +kernel
theorem dX4_dropCrossing_35 : decode cX4_dropCrossing 35 = .ok (.iconst 4, 1) := by decide +kernel
theorem dX4_dropCrossing_36 : decode cX4_dropCrossing 36 = .ok (.iadd, 1) := by decide +kernel
theorem dX4_dropCrossing_37 : decode cX4_dropCrossing 37 = .ok (.istore_n 2, 1) := by decide +kernel
theorem dX4_dropCrossing_38 : decode cX4_dropCrossing 38 = .ok (.iload_n 2, 1) := by decide +kernel
theorem dX4_dropCrossing_39 : decode cX4_dropCrossing 39 = .ok (.aload_n 0, 1) := by decide +kernel
theorem dX4_dropCrossing_40 : decode cX4_dropCrossing 40 = .ok (.invokevirtual 26, 3) := by decide +kernel
theorem dX4_dropCrossing_43 : decode cX4_dropCrossing 43 = .ok (.if_icmp .ge 23, 3) := by decide +kernel
theorem dX4_dropCrossing_46 : decode cX4_dropCrossing 46 = .ok (.aload_n 0, 1) := by decide +kernel
theorem dX4_dropCrossing_47 : decode cX4_dropCrossing 47 = .ok (.getfield 15, 3) := by decide +kernel
theorem dX4_dropCrossing_50 : decode cX4_dropCrossing 50 = .ok (.iload_n 2, 1) := by decide +kernel
theorem dX4_dropCrossing_51 : decode cX4_dropCrossing 51 = .ok (.iconst 4, 1) := by decide +kernel
theorem dX4_dropCrossing_52 : decode cX4_dropCrossing 52 = .ok (.isub, 1) := by decide +kernel
theorem dX4_dropCrossing_53 : decode cX4_dropCrossing 53 = .ok (.aload_n 0, 1) := by decide +kernel
theorem dX4_dropCrossing_54 : decode cX4_dropCrossing 54 = .ok (.getfield 15, 3) := by decide +kernel
theorem dX4_dropCrossing_57 : decode cX4_dropCrossing 57 = .ok (.iload_n 2, 1) := by decide +kernel
theorem dX4_dropCrossing_58 : decode cX4_dropCrossing 58 = .ok (.iaload, 1) := by decide +kernel
theorem dX4_dropCrossing_59 : decode cX4_dropCrossing 59 = .ok (.iastore, 1) := by decide +kernel
theorem dX4_dropCrossing_60 : decode cX4_dropCrossing 60 = .ok (.iinc 2 1, 3) := by decide +kernel
theorem dX4_dropCrossing_63 : decode cX4_dropCrossing 63 = .ok (.goto (-25), 3) := by decide +kernel
theorem dX4_dropCrossing_66 : decode cX4_dropCrossing 66 = .ok (.aload_n 0, 1) := by decide +kernel
theorem dX4_dropCrossing_67 : decode cX4_dropCrossing 67 = .ok (.dup, 1) := by decide +kernel
theorem dX4_dropCrossing_68 : decode cX4_dropCrossing 68 = .ok (.getfield 18, 3) := by decide +kernel
theorem dX4_dropCrossing_71 : decode cX4_dropCrossing 71 = .ok (.iconst 1, 1) := by decide +kernel
theorem dX4_dropCrossing_72 : decode cX4_dropCrossing 72 = .ok (.isub, 1) := by decide +kernel
theorem dX4_dropCrossing_73 : decode cX4_dropCrossing 73 = .ok (.putfield 18, 3) := by decide +kernel
theorem dX4_dropCrossing_76 : decode cX4_dropCrossing 76 = .ok (.return_, 1) := by decide +kernel
theorem dX4_lowerIn_0 : decode cX4_lowerIn 0 = .ok (.iconst 4, 1) := by decide +kernel
theorem dX4_lowerIn_1 : decode cX4_lowerIn 1 = .ok (.iload_n 0, 1) := by decide +kernel
theorem dX4_lowerIn_2 : decode cX4_lowerIn 2 = .ok (.imul, 1) := by decide +kernel
theorem dX4_lowerIn_3 : decode cX4_lowerIn 3 = .ok (.ireturn, 1) := by decide +kernel
theorem dX4_lowerOut_0 : decode cX4_lowerOut 0 = .ok (.iconst 4, 1) := by decide +kernel
theorem dX4_lowerOut_1 : decode cX4_lowerOut 1 = .ok (.iload_n 0, 1) := by decide +kernel
theorem dX4_lowerOut_2 : decode cX4_lowerOut 2 = .ok (.imul, 1) := by decide +kernel
theorem dX4_lowerOut_3 : decode cX4_lowerOut 3 = .ok (.iconst 2, 1) := by decide +kernel
theorem dX4_lowerOut_4 : decode cX4_lowerOut 4 = .ok (.iadd, 1) := by decide +kernel
theorem dX4_lowerOut_5 : decode cX4_lowerOut 5 = .ok (.ireturn, 1) := by decide +kernel
theorem dX4_isUpper_0 : decode cX4_isUpper 0 = .ok (.iload_n 0, 1) := by decide +kernel
theorem dX4_isUpper_1 : decode cX4_isUpper 1 = .ok (.iconst 2, 1) := by decide +kernel
theorem dX4_isUpper_2 : decode cX4_isUpper 2 = .ok (.irem, 1) := by decide +kernel
theorem dX4_isUpper_3 : decode cX4_isUpper 3 = .ok (.ifCond .eq 7, 3) := by decide +kernel
theorem dX4_isUpper_6 : decode cX4_isUpper 6 = .ok (.iconst 1, 1) := by decide +kernel
theorem dX4_isUpper_7 : decode cX4_isUpper 7 = .ok (.goto 4, 3) := by decide +kernel
theorem dX4_isUpper_10 : decode cX4_isUpper 10 = .ok (.iconst 0, 1) := by decide +kernel
theorem dX4_isUpper_11 : decode cX4_isUpper 11 = .ok (.ireturn, 1) := by decide +kernel
theorem dX4_across_0 : decode cX4_across 0 = .ok (.iload_n 0, 1) := by decide +kernel
theorem dX4_across_1 : decode cX4_across 1 = .ok (.iload_n 0, 1) := by decide +kernel
theorem dX4_across_2 : decode cX4_across 2 = .ok (.iconst 4, 1) := by decide +kernel
theorem dX4_across_3 : decode cX4_across 3 = .ok (.irem, 1) := by decide +kernel
theorem dX4_across_4 : decode cX4_across 4 = .ok (.isub, 1) := by decide +kernel
theorem dX4_across_5 : decode cX4_across 5 = .ok (.iload_n 0, 1) := by decide +kernel
theorem dX4_across_6 : decode cX4_across 6 = .ok (.iconst 2, 1) := by decide +kernel
theorem dX4_across_7 : decode cX4_across 7 = .ok (.iadd, 1) := by decide +kernel
theorem dX4_across_8 : decode cX4_across 8 = .ok (.iconst 4, 1) := by decide +kernel
theorem dX4_across_9 : decode cX4_across 9 = .ok (.irem, 1) := by decide +kernel
theorem dX4_across_10 : decode cX4_across 10 = .ok (.iadd, 1) := by decide +kernel
theorem dX4_across_11 : decode cX4_across 11 = .ok (.ireturn, 1) := by decide +kernel
theorem dX4_beside_0 : decode cX4_beside 0 = .ok (.iload_n 0, 1) := by decide +kernel
theorem dX4_beside_1 : decode cX4_beside 1 = .ok (.iload_n 0, 1) := by decide +kernel
theorem dX4_beside_2 : decode cX4_beside 2 = .ok (.iconst 4, 1) := by decide +kernel
theorem dX4_beside_3 : decode cX4_beside 3 = .ok (.irem, 1) := by decide +kernel
theorem dX4_beside_4 : decode cX4_beside 4 = .ok (.isub, 1) := by decide +kernel
theorem dX4_beside_5 : decode cX4_beside 5 = .ok (.iload_n 0, 1) := by decide +kernel
theorem dX4_beside_6 : decode cX4_beside 6 = .ok (.iconst 3, 1) := by decide +kernel
theorem dX4_beside_7 : decode cX4_beside 7 = .ok (.iadd, 1) := by decide +kernel
theorem dX4_beside_8 : decode cX4_beside 8 = .ok (.iconst 4, 1) := by decide +kernel
theorem dX4_beside_9 : decode cX4_beside 9 = .ok (.irem, 1) := by decide +kernel
theorem dX4_beside_10 : decode cX4_beside 10 = .ok (.iadd, 1) := by decide +kernel
theorem dX4_beside_11 : decode cX4_beside 11 = .ok (.ireturn, 1) := by decide +kernel
set_option maxRecDepth 20000 in
theorem ggX5_init_X0_init : GoodIn wsX5_init wsX0_init := goodIn_r _ [12, 13, 2, 3, 14, 15, 16, 17, 18, 19, 20, 21, 22, 23, 24, 25, 26, 27, 28, 29, 30, 31, 32, 33, 34, 35, 36, 37, 38, 39, 40, 41, 42, 43, 44, 45, 46, 47, 48, 49, 50, 51, 52, 53, 54, 55, 56, 57, 58, 59, 60, 61, 62, 63, 64, 65, 66, 80, 81, 82, 67, 68, 69, 70, 71, 72, 73, 74, 75, 83, 84, 85, 86, 87, 88, 89, 90, 91, 92, 93, 94, 95, 96, 97, 98] (by decide +kernel) (by decide +kernel)
set_option maxRecDepth 20000 in
theorem gX5_init_X0_init_n11 : GoodIn wsX5_init (wsX0_init) := ggX5_init_X0_init
theorem dX5_init_0 : decode cX5_init 0 = .ok (.aload_n 0, 1) := by decide +kernel
theorem dX5_init_1 : decode cX5_init 1 = .ok (.invokespecial 3, 3) := by decide +kernel
theorem dX5_init_4 : decode cX5_init 4 = .ok (.aload_n 0, 1) := by decide +kernel
theorem dX5_init_5 : decode cX5_init 5 = .ok (.new 9, 3) := by decide +kernel
theorem dX5_init_8 : decode cX5_init 8 = .ok (.dup, 1) := by decide +kernel
theorem dX5_init_9 : decode cX5_init 9 = .ok (.invokespecial 11, 3) := by decide +kernel
theorem dX5_init_12 : decode cX5_init 12 = .ok (.putfield 12, 3) := by decide +kernel
theorem dX5_init_15 : decode cX5_init 15 = .ok (.aload_n 0, 1) := by decide +kernel
theorem dX5_init_16 : decode cX5_init 16 = .ok (.new 9, 3) := by decide +kernel
theorem dX5_init_19 : decode cX5_init 19 = .ok (.dup, 1) := by decide +kernel
theorem dX5_init_20 : decode cX5_init 20 = .ok (.invokespecial 11, 3) := by decide +kernel
theorem dX5_init_23 : decode cX5_init 23 = .ok (.putfield 16, 3) := by decide +kernel
theorem dX5_init_26 : decode cX5_init 26 = .ok (.aload_n 0, 1) := by decide +kernel
theorem dX5_init_27 : decode cX5_init 27 = .ok (.iconst 0, 1) := by decide +kernel
theorem dX5_init_28 : decode cX5_init 28 = .ok (.putfield 19, 3) := by decide +kernel
theorem dX5_init_31 : decode cX5_init 31 = .ok (.aload_n 0, 1) := by decide +kernel
theorem dX5_init_32 : decode cX5_init 32 = .ok (.iconst (-1), 1) := by decide +kernel
theorem dX5_init_33 : decode cX5_init 33 = .ok (.putfield 23, 3) := by decide +kernel
theorem dX5_init_36 : decode cX5_init 36 = .ok (.return_, 1) := by decide +kernel
set_option maxRecDepth 20000 in
theorem ggX5_crossing_X5_isLabel : GoodIn wsX5_crossing wsX5_isLabel := goodIn_r _ [6] (by decide +kernel) (by decide +kernel)
set_option maxRecDepth 20000 in
theorem gX5_crossing_X5_isLabel : GoodIn wsX5_crossing (va_wsS RX5 26 yX5_isLabel wsX5_isLabel) := goodIn_app (goodIn_of _ (by decide +kernel)) ggX5_crossing_X5_isLabel
set_option maxRecDepth 20000 in
theorem ggX5_crossing_X4_append : GoodIn wsX5_crossing wsX4_append := goodIn_r _ [11, 12, 13, 14, 32, 33, 34] (by decide +kernel) (by decide +kernel)
set_option maxRecDepth 20000 in
theorem gX5_crossing_X4_append : GoodIn wsX5_crossing (wsV RX5 34 RX4 yX4_append wsX4_append) := goodIn_app (goodIn_of _ (by decide +kernel)) ggX5_crossing_X4_append
set_option maxRecDepth 20000 in
theorem ggX5_crossing_X4_crossings : GoodIn wsX5_crossing wsX4_crossings := goodIn_r _ [18, 12, 32, 33, 34] (by decide +kernel) (by decide +kernel)
set_option maxRecDepth 20000 in
theorem gX5_crossing_X4_crossings : GoodIn wsX5_crossing (wsV RX5 40 RX4 yX4_crossings wsX4_crossings) := goodIn_app (goodIn_of _ (by decide +kernel)) ggX5_crossing_X4_crossings
theorem dX5_crossing_0 : decode cX5_crossing 0 = .ok (.iload_n 1, 1) := by decide +kernel
theorem dX5_crossing_1 : decode cX5_crossing 1 = .ok (.iconst 1, 1) := by decide +kernel
theorem dX5_crossing_2 : decode cX5_crossing 2 = .ok (.if_icmp .eq 10, 3) := by decide +kernel
theorem dX5_crossing_5 : decode cX5_crossing 5 = .ok (.iload_n 1, 1) := by decide +kernel
theorem dX5_crossing_6 : decode cX5_crossing 6 = .ok (.iconst (-1), 1) := by decide +kernel
theorem dX5_crossing_7 : decode cX5_crossing 7 = .ok (.if_icmp .eq 5, 3) := by decide +kernel
theorem dX5_crossing_10 : decode cX5_crossing 10 = .ok (.iconst (-1), 1) := by decide +kernel
theorem dX5_crossing_11 : decode cX5_crossing 11 = .ok (.ireturn, 1) := by decide +kernel
theorem dX5_crossing_12 : decode cX5_crossing 12 = .ok (.iload_n 2, 1) := by decide +kernel
theorem dX5_crossing_13 : decode cX5_crossing 13 = .ok (.invokestatic 26, 3) := by decide +kernel
theorem dX5_crossing_16 : decode cX5_crossing 16 = .ok (.ifCond .eq 26, 3) := by decide +kernel
theorem dX5_crossing_19 : decode cX5_crossing 19 = .ok (.iload_n 3, 1) := by decide +kernel
theorem dX5_crossing_20 : decode cX5_crossing 20 = .ok (.invokestatic 26, 3) := by decide +kernel
theorem dX5_crossing_23 : decode cX5_crossing 23 = .ok (.ifCond .eq 19, 3) := by decide +kernel
theorem dX5_crossing_26 : decode cX5_crossing 26 = .ok (.iload 4, 2) := by decide +kernel
theorem dX5_crossing_28 : decode cX5_crossing 28 = .ok (.invokestatic 26, 3) := by decide +kernel
theorem dX5_crossing_31 : decode cX5_crossing 31 = .ok (.ifCond .eq 11, 3) := by decide +kernel
theorem dX5_crossing_34 : decode cX5_crossing 34 = .ok (.iload 5, 2) := by decide +kernel
theorem dX5_crossing_36 : decode cX5_crossing 36 = .ok (.invokestatic 26, 3) := by decide +kernel
theorem dX5_crossing_39 : decode cX5_crossing 39 = .ok (.ifCond .ne 5, 3) := by decide +kernel
theorem dX5_crossing_42 : decode cX5_crossing 42 = .ok (.iconst (-1), 1) := by decide +kernel
theorem dX5_crossing_43 : decode cX5_crossing 43 = .ok (.ireturn, 1) := by decide +kernel
theorem dX5_crossing_44 : decode cX5_crossing 44 = .ok (.aload_n 0, 1) := by decide +kernel
theorem dX5_crossing_45 : decode cX5_crossing 45 = .ok (.getfield 12, 3) := by decide +kernel
theorem dX5_crossing_48 : decode cX5_crossing 48 = .ok (.getfield 30, 3) := by decide +kernel
theorem dX5_crossing_51 : decode cX5_crossing 51 = .ok (.iload_n 1, 1) := by decide +kernel
theorem dX5_crossing_52 : decode cX5_crossing 52 = .ok (.iload_n 2, 1) := by decide +kernel
theorem dX5_crossing_53 : decode cX5_crossing 53 = .ok (.iload_n 3, 1) := by decide +kernel
theorem dX5_crossing_54 : decode cX5_crossing 54 = .ok (.iload 4, 2) := by decide +kernel
theorem dX5_crossing_56 : decode cX5_crossing 56 = .ok (.iload 5, 2) := by decide +kernel
theorem dX5_crossing_58 : decode cX5_crossing 58 = .ok (.invokevirtual 34, 3) := by decide +kernel
theorem dX5_crossing_61 : decode cX5_crossing 61 = .ok (.ifCond .eq 16, 3) := by decide +kernel
theorem dX5_crossing_64 : decode cX5_crossing 64 = .ok (.aload_n 0, 1) := by decide +kernel
theorem dX5_crossing_65 : decode cX5_crossing 65 = .ok (.getfield 12, 3) := by decide +kernel
theorem dX5_crossing_68 : decode cX5_crossing 68 = .ok (.getfield 30, 3) := by decide +kernel
theorem dX5_crossing_71 : decode cX5_crossing 71 = .ok (.invokevirtual 40, 3) := by decide +kernel
theorem dX5_crossing_74 : decode cX5_crossing 74 = .ok (.goto 4, 3) := by decide +kernel
theorem dX5_crossing_77 : decode cX5_crossing 77 = .ok (.iconst (-1), 1) := by decide +kernel
theorem dX5_crossing_78 : decode cX5_crossing 78 = .ok (.ireturn, 1) := by decide +kernel
set_option maxRecDepth 20000 in
theorem ggX5_check_X0_survey : GoodIn wsX5_check wsX0_survey := goodIn_r _ [10, 11, 12, 13, 14, 15, 16, 17, 18, 19, 20, 21, 22, 23, 24, 25, 26, 27, 28, 29, 30, 31, 32, 33, 34, 35, 36, 37, 38, 39, 40, 41, 42, 43, 44, 45, 46, 47, 48, 49, 50, 51, 52, 53, 54, 55, 56, 57, 58, 59, 60, 61, 62, 63, 64, 65, 66, 67, 68, 69, 70, 71, 72, 73, 74, 75, 76, 77, 78, 79, 80, 81, 82, 83, 84, 85, 86, 87, 9, 88, 89, 90, 91, 92, 93, 94, 95, 96, 97, 98, 99, 100, 101, 102, 103, 104, 105, 106, 107, 108, 109, 110, 111, 112, 113, 114, 115, 116, 117, 118, 119, 120, 121, 122, 123, 124, 125, 126, 127, 128, 129, 130, 131, 132, 133, 134, 135, 136, 137, 138, 139, 140, 141, 142, 143, 144, 145, 146, 147, 148, 149, 150, 151, 152, 153, 154, 155, 156, 157, 158, 159, 160, 161, 162, 163, 164, 165, 166, 167, 168, 169, 170, 171, 172, 173, 174, 175, 176, 177, 178, 179, 180, 181, 182, 183, 184, 185, 186, 187, 188, 189, 190, 191, 192, 193, 194, 195, 196, 197, 198, 199, 200, 201, 202, 203, 204, 205, 206, 207, 208, 209, 210, 211, 212, 213, 214, 215, 216, 217, 218, 219, 220, 221, 222, 223, 224, 225, 226, 227, 228, 229, 230, 231, 232, 233, 234, 235, 236, 237, 238, 239, 240, 253, 254, 255, 256, 257, 258, 259, 260, 261, 262, 263, 264, 265, 266, 267, 268, 269, 270, 271, 272, 273, 274, 275, 276, 277, 278, 279, 280] (by decide +kernel) (by decide +kernel)
set_option maxRecDepth 20000 in
theorem gX5_check_X0_survey : GoodIn wsX5_check (wsV RX5 44 RX0 yX0_survey wsX0_survey) := goodIn_app (goodIn_of _ (by decide +kernel)) ggX5_check_X0_survey
set_option maxRecDepth 20000 in
theorem ggX5_check_X0_wrong : GoodIn wsX5_check wsX0_wrong := goodIn_r _ [244, 13, 253, 254, 255, 256, 257, 258, 259, 260, 261] (by decide +kernel) (by decide +kernel)
set_option maxRecDepth 20000 in
theorem gX5_check_X0_wrong : GoodIn wsX5_check (wsV RX5 47 RX0 yX0_wrong wsX0_wrong) := goodIn_app (goodIn_of _ (by decide +kernel)) ggX5_check_X0_wrong
set_option maxRecDepth 20000 in
theorem ggX5_check_X4_clear : GoodIn wsX5_check wsX4_clear := goodIn_r _ [248, 27, 268, 269, 270] (by decide +kernel) (by decide +kernel)
set_option maxRecDepth 20000 in
theorem gX5_check_X4_clear : GoodIn wsX5_check (wsV RX5 49 RX4 yX4_clear wsX4_clear) := goodIn_app (goodIn_of _ (by decide +kernel)) ggX5_check_X4_clear
theorem dX5_check_0 : decode cX5_check 0 = .ok (.iload_n 1, 1) := by decide +kernel
theorem dX5_check_1 : decode cX5_check 1 = .ok (.ifCond .lt 9, 3) := by decide +kernel
theorem dX5_check_4 : decode cX5_check 4 = .ok (.iload_n 1, 1) := by decide +kernel
theorem dX5_check_5 : decode cX5_check 5 = .ok (.bipush 20, 2) := by decide +kernel
theorem dX5_check_7 : decode cX5_check 7 = .ok (.if_icmp .le 5, 3) := by decide +kernel
theorem dX5_check_10 : decode cX5_check 10 = .ok (.iconst (-1), 1) := by decide +kernel
theorem dX5_check_11 : decode cX5_check 11 = .ok (.ireturn, 1) := by decide +kernel
theorem dX5_check_12 : decode cX5_check 12 = .ok (.aload_n 0, 1) := by decide +kernel
theorem dX5_check_13 : decode cX5_check 13 = .ok (.getfield 12, 3) := by decide +kernel
theorem dX5_check_16 : decode cX5_check 16 = .ok (.invokevirtual 44, 3) := by decide +kernel
theorem dX5_check_19 : decode cX5_check 19 = .ok (.istore_n 2, 1) := by decide +kernel
theorem dX5_check_20 : decode cX5_check 20 = .ok (.aload_n 0, 1) := by decide +kernel
theorem dX5_check_21 : decode cX5_check 21 = .ok (.aload_n 0, 1) := by decide +kernel
theorem dX5_check_22 : decode cX5_check 22 = .ok (.getfield 12, 3) := by decide +kernel
theorem dX5_check_25 : decode cX5_check 25 = .ok (.invokevirtual 47, 3) := by decide +kernel
theorem dX5_check_28 : decode cX5_check 28 = .ok (.putfield 23, 3) := by decide +kernel
theorem dX5_check_31 : decode cX5_check 31 = .ok (.iload_n 2, 1) := by decide +kernel
theorem dX5_check_32 : decode cX5_check 32 = .ok (.ifCond .ne 26, 3) := by decide +kernel
theorem dX5_check_35 : decode cX5_check 35 = .ok (.aload_n 0, 1) := by decide +kernel
theorem dX5_check_36 : decode cX5_check 36 = .ok (.getfield 16, 3) := by decide +kernel
theorem dX5_check_39 : decode cX5_check 39 = .ok (.astore_n 3, 1) := by decide +kernel
theorem dX5_check_40 : decode cX5_check 40 = .ok (.aload_n 0, 1) := by decide +kernel
theorem dX5_check_41 : decode cX5_check 41 = .ok (.aload_n 0, 1) := by decide +kernel
theorem dX5_check_42 : decode cX5_check 42 = .ok (.getfield 12, 3) := by decide +kernel
theorem dX5_check_45 : decode cX5_check 45 = .ok (.putfield 16, 3) := by decide +kernel
theorem dX5_check_48 : decode cX5_check 48 = .ok (.aload_n 0, 1) := by decide +kernel
theorem dX5_check_49 : decode cX5_check 49 = .ok (.aload_n 3, 1) := by decide +kernel
theorem dX5_check_50 : decode cX5_check 50 = .ok (.putfield 12, 3) := by decide +kernel
theorem dX5_check_53 : decode cX5_check 53 = .ok (.aload_n 0, 1) := by decide +kernel
theorem dX5_check_54 : decode cX5_check 54 = .ok (.iload_n 1, 1) := by decide +kernel
theorem dX5_check_55 : decode cX5_check 55 = .ok (.putfield 19, 3) := by decide +kernel
theorem dX5_check_58 : decode cX5_check 58 = .ok (.aload_n 0, 1) := by decide +kernel
theorem dX5_check_59 : decode cX5_check 59 = .ok (.getfield 12, 3) := by decide +kernel
theorem dX5_check_62 : decode cX5_check 62 = .ok (.getfield 30, 3) := by decide +kernel
theorem dX5_check_65 : decode cX5_check 65 = .ok (.invokevirtual 49, 3) := by decide +kernel
theorem dX5_check_68 : decode cX5_check 68 = .ok (.iload_n 2, 1) := by decide +kernel
theorem dX5_check_69 : decode cX5_check 69 = .ok (.ireturn, 1) := by decide +kernel
theorem dX5_which_0 : decode cX5_which 0 = .ok (.aload_n 0, 1) := by decide +kernel
theorem dX5_which_1 : decode cX5_which 1 = .ok (.getfield 23, 3) := by decide +kernel
theorem dX5_which_4 : decode cX5_which 4 = .ok (.ireturn, 1) := by decide +kernel
set_option maxRecDepth 20000 in
theorem ggX5_many_X4_crossings : GoodIn wsX5_many wsX4_crossings := goodIn_r _ [15, 16, 62, 63, 64] (by decide +kernel) (by decide +kernel)
set_option maxRecDepth 20000 in
theorem gX5_many_X4_crossings : GoodIn wsX5_many (wsV RX5 40 RX4 yX4_crossings wsX4_crossings) := goodIn_app (goodIn_of _ (by decide +kernel)) ggX5_many_X4_crossings
set_option maxRecDepth 20000 in
theorem ggX5_many_X1_count : GoodIn wsX5_many wsX1_count := goodIn_r _ [21, 22, 65, 66, 67, 68, 69, 70] (by decide +kernel) (by decide +kernel)
set_option maxRecDepth 20000 in
theorem gX5_many_X1_count : GoodIn wsX5_many (wsV RX5 56 RX1 yX1_count wsX1_count) := goodIn_app (goodIn_of _ (by decide +kernel)) ggX5_many_X1_count
set_option maxRecDepth 20000 in
theorem ggX5_many_X3_count : GoodIn wsX5_many wsX3_count := goodIn_r _ [27, 28, 71, 72, 73, 74, 75, 76] (by decide +kernel) (by decide +kernel)
set_option maxRecDepth 20000 in
theorem gX5_many_X3_count : GoodIn wsX5_many (wsV RX5 65 RX3 yX3_count wsX3_count) := goodIn_app (goodIn_of _ (by decide +kernel)) ggX5_many_X3_count
set_option maxRecDepth 20000 in
theorem ggX5_many_X2_count : GoodIn wsX5_many wsX2_count := goodIn_r _ [33, 34, 77, 78, 79, 80] (by decide +kernel) (by decide +kernel)
set_option maxRecDepth 20000 in
theorem gX5_many_X2_count : GoodIn wsX5_many (wsV RX5 72 RX2 yX2_count wsX2_count) := goodIn_app (goodIn_of _ (by decide +kernel)) ggX5_many_X2_count
set_option maxRecDepth 20000 in
theorem ggX5_many_X4_sumOfSigns : GoodIn wsX5_many wsX4_sumOfSigns := goodIn_r _ [38, 16, 39, 62, 63, 64] (by decide +kernel) (by decide +kernel)
set_option maxRecDepth 20000 in
theorem gX5_many_X4_sumOfSigns : GoodIn wsX5_many (wsV RX5 75 RX4 yX4_sumOfSigns wsX4_sumOfSigns) := goodIn_app (goodIn_of _ (by decide +kernel)) ggX5_many_X4_sumOfSigns
set_option maxRecDepth 20000 in
theorem ggX5_many_X1_alternate : GoodIn wsX5_many wsX1_alternate := goodIn_r _ [43, 22, 44, 45, 46, 47, 14, 48, 65, 66, 67, 68, 69, 70] (by decide +kernel) (by decide +kernel)
set_option maxRecDepth 20000 in
theorem gX5_many_X1_alternate : GoodIn wsX5_many (wsV RX5 87 RX1 yX1_alternate wsX1_alternate) := goodIn_app (goodIn_of _ (by decide +kernel)) ggX5_many_X1_alternate
theorem dX5_many_0 : decode cX5_many 0 = .ok (.iload_n 1, 1) := by decide +kernel
theorem dX5_many_1 : decode cX5_many 1 = .ok (.tableswitch 202 0 10 #[59, 70, 81, 97, 113, 118, 129, 140, 156, 172, 191], 59) := by decide +kernel
theorem dX5_many_60 : decode cX5_many 60 = .ok (.aload_n 0, 1) := by decide +kernel
theorem dX5_many_61 : decode cX5_many 61 = .ok (.getfield 16, 3) := by decide +kernel
theorem dX5_many_64 : decode cX5_many 64 = .ok (.getfield 30, 3) := by decide +kernel
theorem dX5_many_67 : decode cX5_many 67 = .ok (.invokevirtual 40, 3) := by decide +kernel
theorem dX5_many_70 : decode cX5_many 70 = .ok (.ireturn, 1) := by decide +kernel
theorem dX5_many_71 : decode cX5_many 71 = .ok (.aload_n 0, 1) := by decide +kernel
theorem dX5_many_72 : decode cX5_many 72 = .ok (.getfield 16, 3) := by decide +kernel
theorem dX5_many_75 : decode cX5_many 75 = .ok (.getfield 52, 3) := by decide +kernel
theorem dX5_many_78 : decode cX5_many 78 = .ok (.invokevirtual 56, 3) := by decide +kernel
theorem dX5_many_81 : decode cX5_many 81 = .ok (.ireturn, 1) := by decide +kernel
theorem dX5_many_82 : decode cX5_many 82 = .ok (.aload_n 0, 1) := by decide +kernel
theorem dX5_many_83 : decode cX5_many 83 = .ok (.getfield 16, 3) := by decide +kernel
theorem dX5_many_86 : decode cX5_many 86 = .ok (.getfield 61, 3) := by decide +kernel
theorem dX5_many_89 : decode cX5_many 89 = .ok (.invokevirtual 65, 3) := by decide +kernel
theorem dX5_many_92 : decode cX5_many 92 = .ok (.aload_n 0, 1) := by decide +kernel
theorem dX5_many_93 : decode cX5_many 93 = .ok (.getfield 19, 3) := by decide +kernel
theorem dX5_many_96 : decode cX5_many 96 = .ok (.iadd, 1) := by decide +kernel
theorem dX5_many_97 : decode cX5_many 97 = .ok (.ireturn, 1) := by decide +kernel
theorem dX5_many_98 : decode cX5_many 98 = .ok (.aload_n 0, 1) := by decide +kernel
theorem dX5_many_99 : decode cX5_many 99 = .ok (.getfield 16, 3) := by decide +kernel
theorem dX5_many_102 : decode cX5_many 102 = .ok (.getfield 68, 3) := by decide +kernel
theorem dX5_many_105 : decode cX5_many 105 = .ok (.invokevirtual 72, 3) := by decide +kernel
theorem dX5_many_108 : decode cX5_many 108 = .ok (.aload_n 0, 1) := by decide +kernel
theorem dX5_many_109 : decode cX5_many 109 = .ok (.getfield 19, 3) := by decide +kernel
theorem dX5_many_112 : decode cX5_many 112 = .ok (.iadd, 1) := by decide +kernel
theorem dX5_many_113 : decode cX5_many 113 = .ok (.ireturn, 1) := by decide +kernel
theorem dX5_many_114 : decode cX5_many 114 = .ok (.aload_n 0, 1) := by decide +kernel
theorem dX5_many_115 : decode cX5_many 115 = .ok (.getfield 19, 3) := by decide +kernel
theorem dX5_many_118 : decode cX5_many 118 = .ok (.ireturn, 1) := by decide +kernel
theorem dX5_many_119 : decode cX5_many 119 = .ok (.aload_n 0, 1) := by decide +kernel
theorem dX5_many_120 : decode cX5_many 120 = .ok (.getfield 16, 3) := by decide +kernel
theorem dX5_many_123 : decode cX5_many 123 = .ok (.getfield 30, 3) := by decide +kernel
theorem dX5_many_126 : decode cX5_many 126 = .ok (.invokevirtual 75, 3) := by decide +kernel
theorem dX5_many_129 : decode cX5_many 129 = .ok (.ireturn, 1) := by decide +kernel
theorem dX5_many_130 : decode cX5_many 130 = .ok (.aload_n 0, 1) := by decide +kernel
theorem dX5_many_131 : decode cX5_many 131 = .ok (.getfield 16, 3) := by decide +kernel
theorem dX5_many_134 : decode cX5_many 134 = .ok (.getfield 78, 3) := by decide +kernel
theorem dX5_many_137 : decode cX5_many 137 = .ok (.invokevirtual 65, 3) := by decide +kernel
theorem dX5_many_140 : decode cX5_many 140 = .ok (.ireturn, 1) := by decide +kernel
theorem dX5_many_141 : decode cX5_many 141 = .ok (.aload_n 0, 1) := by decide +kernel
theorem dX5_many_142 : decode cX5_many 142 = .ok (.getfield 16, 3) := by decide +kernel
theorem dX5_many_145 : decode cX5_many 145 = .ok (.getfield 81, 3) := by decide +kernel
theorem dX5_many_148 : decode cX5_many 148 = .ok (.invokevirtual 72, 3) := by decide +kernel
theorem dX5_many_151 : decode cX5_many 151 = .ok (.aload_n 0, 1) := by decide +kernel
theorem dX5_many_152 : decode cX5_many 152 = .ok (.getfield 19, 3) := by decide +kernel
theorem dX5_many_155 : decode cX5_many 155 = .ok (.iadd, 1) := by decide +kernel
theorem dX5_many_156 : decode cX5_many 156 = .ok (.ireturn, 1) := by decide +kernel
theorem dX5_many_157 : decode cX5_many 157 = .ok (.aload_n 0, 1) := by decide +kernel
theorem dX5_many_158 : decode cX5_many 158 = .ok (.getfield 16, 3) := by decide +kernel
theorem dX5_many_161 : decode cX5_many 161 = .ok (.getfield 84, 3) := by decide +kernel
theorem dX5_many_164 : decode cX5_many 164 = .ok (.invokevirtual 65, 3) := by decide +kernel
theorem dX5_many_167 : decode cX5_many 167 = .ok (.aload_n 0, 1) := by decide +kernel
theorem dX5_many_168 : decode cX5_many 168 = .ok (.getfield 19, 3) := by decide +kernel
theorem dX5_many_171 : decode cX5_many 171 = .ok (.iadd, 1) := by decide +kernel
theorem dX5_many_172 : decode cX5_many 172 = .ok (.ireturn, 1) := by decide +kernel
theorem dX5_many_173 : decode cX5_many 173 = .ok (.aload_n 0, 1) := by decide +kernel
theorem dX5_many_174 : decode cX5_many 174 = .ok (.getfield 16, 3) := by decide +kernel
theorem dX5_many_177 : decode cX5_many 177 = .ok (.getfield 52, 3) := by decide +kernel
theorem dX5_many_180 : decode cX5_many 180 = .ok (.invokevirtual 87, 3) := by decide +kernel
theorem dX5_many_183 : decode cX5_many 183 = .ok (.ifCond .eq 7, 3) := by decide +kernel
theorem dX5_many_186 : decode cX5_many 186 = .ok (.iconst 1, 1) := by decide +kernel
theorem dX5_many_187 : decode cX5_many 187 = .ok (.goto 4, 3) := by decide +kernel
theorem dX5_many_190 : decode cX5_many 190 = .ok (.iconst 0, 1) := by decide +kernel
theorem dX5_many_191 : decode cX5_many 191 = .ok (.ireturn, 1) := by decide +kernel
theorem dX5_many_192 : decode cX5_many 192 = .ok (.aload_n 0, 1) := by decide +kernel
theorem dX5_many_193 : decode cX5_many 193 = .ok (.getfield 12, 3) := by decide +kernel
theorem dX5_many_196 : decode cX5_many 196 = .ok (.getfield 30, 3) := by decide +kernel
theorem dX5_many_199 : decode cX5_many 199 = .ok (.invokevirtual 40, 3) := by decide +kernel
theorem dX5_many_202 : decode cX5_many 202 = .ok (.ireturn, 1) := by decide +kernel
theorem dX5_many_203 : decode cX5_many 203 = .ok (.sipush (-1000), 3) := by decide +kernel
theorem dX5_many_206 : decode cX5_many 206 = .ok (.ireturn, 1) := by decide +kernel
set_option maxRecDepth 20000 in
theorem ggX5_look_X4_has : GoodIn wsX5_look wsX4_has := goodIn_r _ [8, 9, 86, 87, 88] (by decide +kernel) (by decide +kernel)
set_option maxRecDepth 20000 in
theorem gX5_look_X4_has : GoodIn wsX5_look (wsV RX5 91 RX4 yX4_has wsX4_has) := goodIn_app (goodIn_of _ (by decide +kernel)) ggX5_look_X4_has
set_option maxRecDepth 20000 in
theorem ggX5_look_X4_label : GoodIn wsX5_look wsX4_label := goodIn_r _ [13, 14, 15, 16, 17, 7, 18, 9, 86, 87, 88] (by decide +kernel) (by decide +kernel)
set_option maxRecDepth 20000 in
theorem gX5_look_X4_label : GoodIn wsX5_look (wsV RX5 94 RX4 yX4_label wsX4_label) := goodIn_app (goodIn_of _ (by decide +kernel)) ggX5_look_X4_label
set_option maxRecDepth 20000 in
theorem ggX5_look_X4_sign : GoodIn wsX5_look wsX4_sign := goodIn_r _ [22, 23, 24, 5, 6, 7, 8, 9, 86, 87, 88] (by decide +kernel) (by decide +kernel)
set_option maxRecDepth 20000 in
theorem gX5_look_X4_sign : GoodIn wsX5_look (wsV RX5 98 RX4 yX4_sign wsX4_sign) := goodIn_app (goodIn_of _ (by decide +kernel)) ggX5_look_X4_sign
set_option maxRecDepth 20000 in
theorem ggX5_look_X2_numberOf : GoodIn wsX5_look wsX2_numberOf := goodIn_r _ [29, 30, 31, 32, 33, 28, 34, 35, 89, 90, 91, 92] (by decide +kernel) (by decide +kernel)
set_option maxRecDepth 20000 in
theorem gX5_look_X2_numberOf : GoodIn wsX5_look (wsV RX5 101 RX2 yX2_numberOf wsX2_numberOf) := goodIn_app (goodIn_of _ (by decide +kernel)) ggX5_look_X2_numberOf
set_option maxRecDepth 20000 in
theorem ggX5_look_X0_lowerComponent : GoodIn wsX5_look wsX0_lowerComponent := goodIn_r _ [40, 41, 42, 43, 44, 7, 45, 46, 47, 48, 49, 50, 51, 52, 53, 54, 55, 56, 57, 58, 59, 60, 61, 62, 77, 78, 79, 80, 81, 82, 83, 84, 85, 93, 94, 95, 96, 97, 98, 99, 100, 101, 102, 103, 104] (by decide +kernel) (by decide +kernel)
set_option maxRecDepth 20000 in
theorem gX5_look_X0_lowerComponent : GoodIn wsX5_look (wsV RX5 104 RX0 yX0_lowerComponent wsX0_lowerComponent) := goodIn_app (goodIn_of _ (by decide +kernel)) ggX5_look_X0_lowerComponent
set_option maxRecDepth 20000 in
theorem ggX5_look_X0_upperComponent : GoodIn wsX5_look wsX0_upperComponent := goodIn_r _ [66, 41, 42, 67, 68, 69, 70, 7, 71, 72, 20, 21, 22, 23, 24, 5, 6, 8, 9, 46, 47, 48, 49, 50, 51, 52, 53, 54, 55, 56, 57, 58, 59, 60, 61, 62, 77, 78, 79, 80, 81, 82, 83, 84, 85, 86, 87, 88, 93, 94, 95, 96, 97, 98, 99, 100, 101, 102, 103, 104] (by decide +kernel) (by decide +kernel)
set_option maxRecDepth 20000 in
theorem gX5_look_X0_upperComponent : GoodIn wsX5_look (wsV RX5 107 RX0 yX0_upperComponent wsX0_upperComponent) := goodIn_app (goodIn_of _ (by decide +kernel)) ggX5_look_X0_upperComponent
theorem dX5_look_0 : decode cX5_look 0 = .ok (.aload_n 0, 1) := by decide +kernel
theorem dX5_look_1 : decode cX5_look 1 = .ok (.getfield 16, 3) := by decide +kernel
theorem dX5_look_4 : decode cX5_look 4 = .ok (.getfield 30, 3) := by decide +kernel
theorem dX5_look_7 : decode cX5_look 7 = .ok (.iload_n 1, 1) := by decide +kernel
theorem dX5_look_8 : decode cX5_look 8 = .ok (.invokevirtual 91, 3) := by decide +kernel
theorem dX5_look_11 : decode cX5_look 11 = .ok (.ifCond .ne 7, 3) := by decide +kernel
theorem dX5_look_14 : decode cX5_look 14 = .ok (.sipush (-1000), 3) := by decide +kernel
theorem dX5_look_17 : decode cX5_look 17 = .ok (.ireturn, 1) := by decide +kernel
theorem dX5_look_18 : decode cX5_look 18 = .ok (.iload_n 2, 1) := by decide +kernel
theorem dX5_look_19 : decode cX5_look 19 = .ok (.tableswitch 103 0 7 #[45, 45, 45, 45, 61, 73, 85, 94], 45) := by decide +kernel
theorem dX5_look_64 : decode cX5_look 64 = .ok (.aload_n 0, 1) := by decide +kernel
theorem dX5_look_65 : decode cX5_look 65 = .ok (.getfield 16, 3) := by decide +kernel
theorem dX5_look_68 : decode cX5_look 68 = .ok (.getfield 30, 3) := by decide +kernel
theorem dX5_look_71 : decode cX5_look 71 = .ok (.iconst 4, 1) := by decide +kernel
theorem dX5_look_72 : decode cX5_look 72 = .ok (.iload_n 1, 1) := by decide +kernel
theorem dX5_look_73 : decode cX5_look 73 = .ok (.imul, 1) := by decide +kernel
theorem dX5_look_74 : decode cX5_look 74 = .ok (.iload_n 2, 1) := by decide +kernel
theorem dX5_look_75 : decode cX5_look 75 = .ok (.iadd, 1) := by decide +kernel
theorem dX5_look_76 : decode cX5_look 76 = .ok (.invokevirtual 94, 3) := by decide +kernel
theorem dX5_look_79 : decode cX5_look 79 = .ok (.ireturn, 1) := by decide +kernel
theorem dX5_look_80 : decode cX5_look 80 = .ok (.aload_n 0, 1) := by decide +kernel
theorem dX5_look_81 : decode cX5_look 81 = .ok (.getfield 16, 3) := by decide +kernel
theorem dX5_look_84 : decode cX5_look 84 = .ok (.getfield 30, 3) := by decide +kernel
theorem dX5_look_87 : decode cX5_look 87 = .ok (.iload_n 1, 1) := by decide +kernel
theorem dX5_look_88 : decode cX5_look 88 = .ok (.invokevirtual 98, 3) := by decide +kernel
theorem dX5_look_91 : decode cX5_look 91 = .ok (.ireturn, 1) := by decide +kernel
theorem dX5_look_92 : decode cX5_look 92 = .ok (.aload_n 0, 1) := by decide +kernel
theorem dX5_look_93 : decode cX5_look 93 = .ok (.getfield 16, 3) := by decide +kernel
theorem dX5_look_96 : decode cX5_look 96 = .ok (.getfield 68, 3) := by decide +kernel
theorem dX5_look_99 : decode cX5_look 99 = .ok (.iload_n 1, 1) := by decide +kernel
theorem dX5_look_100 : decode cX5_look 100 = .ok (.invokevirtual 101, 3) := by decide +kernel
theorem dX5_look_103 : decode cX5_look 103 = .ok (.ireturn, 1) := by decide +kernel
theorem dX5_look_104 : decode cX5_look 104 = .ok (.aload_n 0, 1) := by decide +kernel
theorem dX5_look_105 : decode cX5_look 105 = .ok (.getfield 16, 3) := by decide +kernel
theorem dX5_look_108 : decode cX5_look 108 = .ok (.iload_n 1, 1) := by decide +kernel
theorem dX5_look_109 : decode cX5_look 109 = .ok (.invokevirtual 104, 3) := by decide +kernel
theorem dX5_look_112 : decode cX5_look 112 = .ok (.ireturn, 1) := by decide +kernel
theorem dX5_look_113 : decode cX5_look 113 = .ok (.aload_n 0, 1) := by decide +kernel
theorem dX5_look_114 : decode cX5_look 114 = .ok (.getfield 16, 3) := by decide +kernel
theorem dX5_look_117 : decode cX5_look 117 = .ok (.iload_n 1, 1) := by decide +kernel
theorem dX5_look_118 : decode cX5_look 118 = .ok (.invokevirtual 107, 3) := by decide +kernel
theorem dX5_look_121 : decode cX5_look 121 = .ok (.ireturn, 1) := by decide +kernel
theorem dX5_look_122 : decode cX5_look 122 = .ok (.sipush (-1000), 3) := by decide +kernel
theorem dX5_look_125 : decode cX5_look 125 = .ok (.ireturn, 1) := by decide +kernel
set_option maxRecDepth 20000 in
theorem ggX5_edge_X1_rank : GoodIn wsX5_edge wsX1_rank := goodIn_r _ [10, 11, 12, 13, 14, 9, 15, 16, 17, 18, 19, 20, 75, 76, 77, 78, 79, 80] (by decide +kernel) (by decide +kernel)
set_option maxRecDepth 20000 in
theorem gX5_edge_X1_rank : GoodIn wsX5_edge (wsV RX5 110 RX1 yX1_rank wsX1_rank) := goodIn_app (goodIn_of _ (by decide +kernel)) ggX5_edge_X1_rank
set_option maxRecDepth 20000 in
theorem ggX5_edge_X1_from : GoodIn wsX5_edge wsX1_from := goodIn_r _ [24, 25, 17, 18, 19, 9, 20, 16, 75, 76, 77, 78, 79, 80] (by decide +kernel) (by decide +kernel)
set_option maxRecDepth 20000 in
theorem gX5_edge_X1_from : GoodIn wsX5_edge (wsV RX5 113 RX1 yX1_from wsX1_from) := goodIn_app (goodIn_of _ (by decide +kernel)) ggX5_edge_X1_from
set_option maxRecDepth 20000 in
theorem ggX5_edge_X1_to : GoodIn wsX5_edge wsX1_to := goodIn_r _ [29, 30, 17, 18, 19, 9, 20, 16, 75, 76, 77, 78, 79, 80] (by decide +kernel) (by decide +kernel)
set_option maxRecDepth 20000 in
theorem gX5_edge_X1_to : GoodIn wsX5_edge (wsV RX5 116 RX1 yX1_to wsX1_to) := goodIn_app (goodIn_of _ (by decide +kernel)) ggX5_edge_X1_to
set_option maxRecDepth 20000 in
theorem ggX5_edge_X3_next : GoodIn wsX5_edge wsX3_next := goodIn_r _ [35, 36, 37, 38, 39, 34, 40, 41, 81, 82, 83, 84, 85, 86] (by decide +kernel) (by decide +kernel)
set_option maxRecDepth 20000 in
theorem gX5_edge_X3_next : GoodIn wsX5_edge (wsV RX5 119 RX3 yX3_next wsX3_next) := goodIn_app (goodIn_of _ (by decide +kernel)) ggX5_edge_X3_next
set_option maxRecDepth 20000 in
theorem ggX5_edge_X1_label : GoodIn wsX5_edge wsX1_label := goodIn_r _ [45, 11, 17, 18, 19, 9, 20, 16, 75, 76, 77, 78, 79, 80] (by decide +kernel) (by decide +kernel)
set_option maxRecDepth 20000 in
theorem gX5_edge_X1_label : GoodIn wsX5_edge (wsV RX5 122 RX1 yX1_label wsX1_label) := goodIn_app (goodIn_of _ (by decide +kernel)) ggX5_edge_X1_label
set_option maxRecDepth 20000 in
theorem ggX5_edge_X3_roundOf : GoodIn wsX5_edge wsX3_roundOf := goodIn_r _ [49, 50, 37, 38, 39, 34, 40, 41, 81, 82, 83, 84, 85, 86] (by decide +kernel) (by decide +kernel)
set_option maxRecDepth 20000 in
theorem gX5_edge_X3_roundOf : GoodIn wsX5_edge (wsV RX5 123 RX3 yX3_roundOf wsX3_roundOf) := goodIn_app (goodIn_of _ (by decide +kernel)) ggX5_edge_X3_roundOf
set_option maxRecDepth 20000 in
theorem ggX5_edge_X2_least : GoodIn wsX5_edge wsX2_least := goodIn_r _ [55, 56, 57, 58, 59, 54, 60, 61, 87, 88, 89, 90] (by decide +kernel) (by decide +kernel)
set_option maxRecDepth 20000 in
theorem gX5_edge_X2_least : GoodIn wsX5_edge (wsV RX5 126 RX2 yX2_least wsX2_least) := goodIn_app (goodIn_of _ (by decide +kernel)) ggX5_edge_X2_least
theorem dX5_edge_0 : decode cX5_edge 0 = .ok (.aload_n 0, 1) := by decide +kernel
theorem dX5_edge_1 : decode cX5_edge 1 = .ok (.getfield 16, 3) := by decide +kernel
theorem dX5_edge_4 : decode cX5_edge 4 = .ok (.getfield 52, 3) := by decide +kernel
theorem dX5_edge_7 : decode cX5_edge 7 = .ok (.astore_n 3, 1) := by decide +kernel
theorem dX5_edge_8 : decode cX5_edge 8 = .ok (.aload_n 3, 1) := by decide +kernel
theorem dX5_edge_9 : decode cX5_edge 9 = .ok (.iload_n 1, 1) := by decide +kernel
theorem dX5_edge_10 : decode cX5_edge 10 = .ok (.invokevirtual 110, 3) := by decide +kernel
theorem dX5_edge_13 : decode cX5_edge 13 = .ok (.istore 4, 2) := by decide +kernel
theorem dX5_edge_15 : decode cX5_edge 15 = .ok (.iload 4, 2) := by decide +kernel
theorem dX5_edge_17 : decode cX5_edge 17 = .ok (.iconst (-1), 1) := by decide +kernel
theorem dX5_edge_18 : decode cX5_edge 18 = .ok (.if_icmp .ne 5, 3) := by decide +kernel
theorem dX5_edge_21 : decode cX5_edge 21 = .ok (.iconst (-1), 1) := by decide +kernel
theorem dX5_edge_22 : decode cX5_edge 22 = .ok (.ireturn, 1) := by decide +kernel
theorem dX5_edge_23 : decode cX5_edge 23 = .ok (.iload_n 2, 1) := by decide +kernel
theorem dX5_edge_24 : decode cX5_edge 24 = .ok (.tableswitch 167 0 8 #[52, 61, 70, 79, 88, 105, 118, 133, 150], 52) := by decide +kernel
theorem dX5_edge_76 : decode cX5_edge 76 = .ok (.aload_n 3, 1) := by decide +kernel
theorem dX5_edge_77 : decode cX5_edge 77 = .ok (.iload 4, 2) := by decide +kernel
theorem dX5_edge_79 : decode cX5_edge 79 = .ok (.invokevirtual 113, 3) := by decide +kernel
theorem dX5_edge_82 : decode cX5_edge 82 = .ok (.iconst 4, 1) := by decide +kernel
theorem dX5_edge_83 : decode cX5_edge 83 = .ok (.idiv, 1) := by decide +kernel
theorem dX5_edge_84 : decode cX5_edge 84 = .ok (.ireturn, 1) := by decide +kernel
theorem dX5_edge_85 : decode cX5_edge 85 = .ok (.aload_n 3, 1) := by decide +kernel
theorem dX5_edge_86 : decode cX5_edge 86 = .ok (.iload 4, 2) := by decide +kernel
theorem dX5_edge_88 : decode cX5_edge 88 = .ok (.invokevirtual 113, 3) := by decide +kernel
theorem dX5_edge_91 : decode cX5_edge 91 = .ok (.iconst 4, 1) := by decide +kernel
theorem dX5_edge_92 : decode cX5_edge 92 = .ok (.irem, 1) := by decide +kernel
theorem dX5_edge_93 : decode cX5_edge 93 = .ok (.ireturn, 1) := by decide +kernel
theorem dX5_edge_94 : decode cX5_edge 94 = .ok (.aload_n 3, 1) := by decide +kernel
theorem dX5_edge_95 : decode cX5_edge 95 = .ok (.iload 4, 2) := by decide +kernel
theorem dX5_edge_97 : decode cX5_edge 97 = .ok (.invokevirtual 116, 3) := by decide +kernel
theorem dX5_edge_100 : decode cX5_edge 100 = .ok (.iconst 4, 1) := by decide +kernel
theorem dX5_edge_101 : decode cX5_edge 101 = .ok (.idiv, 1) := by decide +kernel
theorem dX5_edge_102 : decode cX5_edge 102 = .ok (.ireturn, 1) := by decide +kernel
theorem dX5_edge_103 : decode cX5_edge 103 = .ok (.aload_n 3, 1) := by decide +kernel
theorem dX5_edge_104 : decode cX5_edge 104 = .ok (.iload 4, 2) := by decide +kernel
theorem dX5_edge_106 : decode cX5_edge 106 = .ok (.invokevirtual 116, 3) := by decide +kernel
theorem dX5_edge_109 : decode cX5_edge 109 = .ok (.iconst 4, 1) := by decide +kernel
theorem dX5_edge_110 : decode cX5_edge 110 = .ok (.irem, 1) := by decide +kernel
theorem dX5_edge_111 : decode cX5_edge 111 = .ok (.ireturn, 1) := by decide +kernel
theorem dX5_edge_112 : decode cX5_edge 112 = .ok (.aload_n 3, 1) := by decide +kernel
theorem dX5_edge_113 : decode cX5_edge 113 = .ok (.aload_n 0, 1) := by decide +kernel
theorem dX5_edge_114 : decode cX5_edge 114 = .ok (.getfield 16, 3) := by decide +kernel
theorem dX5_edge_117 : decode cX5_edge 117 = .ok (.getfield 61, 3) := by decide +kernel
theorem dX5_edge_120 : decode cX5_edge 120 = .ok (.iload 4, 2) := by decide +kernel
theorem dX5_edge_122 : decode cX5_edge 122 = .ok (.invokevirtual 119, 3) := by decide +kernel
theorem dX5_edge_125 : decode cX5_edge 125 = .ok (.invokevirtual 122, 3) := by decide +kernel
theorem dX5_edge_128 : decode cX5_edge 128 = .ok (.ireturn, 1) := by decide +kernel
theorem dX5_edge_129 : decode cX5_edge 129 = .ok (.aload_n 0, 1) := by decide +kernel
theorem dX5_edge_130 : decode cX5_edge 130 = .ok (.getfield 16, 3) := by decide +kernel
theorem dX5_edge_133 : decode cX5_edge 133 = .ok (.getfield 61, 3) := by decide +kernel
theorem dX5_edge_136 : decode cX5_edge 136 = .ok (.iload 4, 2) := by decide +kernel
theorem dX5_edge_138 : decode cX5_edge 138 = .ok (.invokevirtual 123, 3) := by decide +kernel
theorem dX5_edge_141 : decode cX5_edge 141 = .ok (.ireturn, 1) := by decide +kernel
theorem dX5_edge_142 : decode cX5_edge 142 = .ok (.aload_n 0, 1) := by decide +kernel
theorem dX5_edge_143 : decode cX5_edge 143 = .ok (.getfield 16, 3) := by decide +kernel
theorem dX5_edge_146 : decode cX5_edge 146 = .ok (.getfield 78, 3) := by decide +kernel
theorem dX5_edge_149 : decode cX5_edge 149 = .ok (.iconst 2, 1) := by decide +kernel
theorem dX5_edge_150 : decode cX5_edge 150 = .ok (.iload 4, 2) := by decide +kernel
theorem dX5_edge_152 : decode cX5_edge 152 = .ok (.imul, 1) := by decide +kernel
theorem dX5_edge_153 : decode cX5_edge 153 = .ok (.invokevirtual 123, 3) := by decide +kernel
theorem dX5_edge_156 : decode cX5_edge 156 = .ok (.ireturn, 1) := by decide +kernel
theorem dX5_edge_157 : decode cX5_edge 157 = .ok (.aload_n 0, 1) := by decide +kernel
theorem dX5_edge_158 : decode cX5_edge 158 = .ok (.getfield 16, 3) := by decide +kernel
theorem dX5_edge_161 : decode cX5_edge 161 = .ok (.getfield 78, 3) := by decide +kernel
theorem dX5_edge_164 : decode cX5_edge 164 = .ok (.iconst 2, 1) := by decide +kernel
theorem dX5_edge_165 : decode cX5_edge 165 = .ok (.iload 4, 2) := by decide +kernel
theorem dX5_edge_167 : decode cX5_edge 167 = .ok (.imul, 1) := by decide +kernel
theorem dX5_edge_168 : decode cX5_edge 168 = .ok (.iconst 1, 1) := by decide +kernel
theorem dX5_edge_169 : decode cX5_edge 169 = .ok (.iadd, 1) := by decide +kernel
theorem dX5_edge_170 : decode cX5_edge 170 = .ok (.invokevirtual 123, 3) := by decide +kernel
theorem dX5_edge_173 : decode cX5_edge 173 = .ok (.ireturn, 1) := by decide +kernel
theorem dX5_edge_174 : decode cX5_edge 174 = .ok (.aload_n 3, 1) := by decide +kernel
theorem dX5_edge_175 : decode cX5_edge 175 = .ok (.aload_n 0, 1) := by decide +kernel
theorem dX5_edge_176 : decode cX5_edge 176 = .ok (.getfield 16, 3) := by decide +kernel
theorem dX5_edge_179 : decode cX5_edge 179 = .ok (.getfield 81, 3) := by decide +kernel
theorem dX5_edge_182 : decode cX5_edge 182 = .ok (.iload 4, 2) := by decide +kernel
theorem dX5_edge_184 : decode cX5_edge 184 = .ok (.invokevirtual 126, 3) := by decide +kernel
theorem dX5_edge_187 : decode cX5_edge 187 = .ok (.invokevirtual 122, 3) := by decide +kernel
theorem dX5_edge_190 : decode cX5_edge 190 = .ok (.ireturn, 1) := by decide +kernel
theorem dX5_edge_191 : decode cX5_edge 191 = .ok (.iconst (-1), 1) := by decide +kernel
theorem dX5_edge_192 : decode cX5_edge 192 = .ok (.ireturn, 1) := by decide +kernel
set_option maxRecDepth 20000 in
theorem ggX5_component_X5_hasComponent : GoodIn wsX5_component wsX5_hasComponent := goodIn_r _ [8, 1, 2, 9, 10, 11, 12, 13, 14, 15, 139, 140, 141, 142, 143, 144, 145, 146, 147, 148, 149, 150, 151, 152, 153, 154, 155, 156, 157] (by decide +kernel) (by decide +kernel)
set_option maxRecDepth 20000 in
theorem gX5_component_X5_hasComponent : GoodIn wsX5_component (wsV RX5 129 RX5 yX5_hasComponent wsX5_hasComponent) := goodIn_app (goodIn_of _ (by decide +kernel)) ggX5_component_X5_hasComponent
set_option maxRecDepth 20000 in
theorem ggX5_component_X0_linking : GoodIn wsX5_component wsX0_linking := goodIn_r _ [20, 21, 22, 23, 19, 24, 25, 26, 27, 28, 29, 30, 31, 32, 33, 34, 35, 36, 37, 38, 39, 40, 41, 42, 43, 44, 45, 46, 47, 48, 49, 13, 50, 51, 52, 53, 54, 55, 56, 57, 58, 59, 60, 61, 62, 63, 64, 65, 66, 67, 68, 69, 70, 71, 72, 73, 74, 143, 144, 145, 146, 147, 148, 149, 150, 151, 158, 159, 160, 161, 162, 163, 164, 165, 166, 152, 153, 154, 155, 156, 157] (by decide +kernel) (by decide +kernel)
set_option maxRecDepth 20000 in
theorem gX5_component_X0_linking : GoodIn wsX5_component (wsV RX5 132 RX0 yX0_linking wsX0_linking) := goodIn_app (goodIn_of _ (by decide +kernel)) ggX5_component_X0_linking
set_option maxRecDepth 20000 in
theorem ggX5_component_X3_count : GoodIn wsX5_component wsX3_count := goodIn_r _ [14, 15, 152, 153, 154, 155, 156, 157] (by decide +kernel) (by decide +kernel)
set_option maxRecDepth 20000 in
theorem gX5_component_X3_count : GoodIn wsX5_component (wsV RX5 65 RX3 yX3_count wsX3_count) := goodIn_app (goodIn_of _ (by decide +kernel)) ggX5_component_X3_count
set_option maxRecDepth 20000 in
theorem ggX5_component_X5_tellCircle : GoodIn wsX5_component wsX5_tellCircle := goodIn_r _ [78, 1, 79, 80, 81, 82, 83, 84, 85, 139, 140, 141, 142, 143, 144, 145, 146, 147, 148, 149, 150, 151, 167, 168, 169, 170] (by decide +kernel) (by decide +kernel)
set_option maxRecDepth 20000 in
theorem gX5_component_X5_tellCircle : GoodIn wsX5_component (wsV RX5 136 RX5 yX5_tellCircle wsX5_tellCircle) := goodIn_app (goodIn_of _ (by decide +kernel)) ggX5_component_X5_tellCircle
set_option maxRecDepth 20000 in
theorem ggX5_component_X3_first : GoodIn wsX5_component wsX3_first := goodIn_r _ [89, 90, 91, 92, 93, 13, 94, 15, 152, 153, 154, 155, 156, 157] (by decide +kernel) (by decide +kernel)
set_option maxRecDepth 20000 in
theorem gX5_component_X3_first : GoodIn wsX5_component (wsV RX5 139 RX3 yX3_first wsX3_first) := goodIn_app (goodIn_of _ (by decide +kernel)) ggX5_component_X3_first
set_option maxRecDepth 20000 in
theorem ggX5_component_X1_label : GoodIn wsX5_component wsX1_label := goodIn_r _ [98, 99, 100, 101, 102, 44, 103, 104, 161, 162, 163, 164, 165, 166] (by decide +kernel) (by decide +kernel)
set_option maxRecDepth 20000 in
theorem gX5_component_X1_label : GoodIn wsX5_component (wsV RX5 122 RX1 yX1_label wsX1_label) := goodIn_app (goodIn_of _ (by decide +kernel)) ggX5_component_X1_label
set_option maxRecDepth 20000 in
theorem ggX5_component_X3_size : GoodIn wsX5_component wsX3_size := goodIn_r _ [108, 109, 91, 92, 93, 13, 94, 15, 152, 153, 154, 155, 156, 157] (by decide +kernel) (by decide +kernel)
set_option maxRecDepth 20000 in
theorem gX5_component_X3_size : GoodIn wsX5_component (wsV RX5 142 RX3 yX3_size wsX3_size) := goodIn_app (goodIn_of _ (by decide +kernel)) ggX5_component_X3_size
set_option maxRecDepth 20000 in
theorem ggX5_component_X0_sumOfOwnSigns : GoodIn wsX5_component wsX0_sumOfOwnSigns := goodIn_r _ [113, 21, 22, 23, 19, 24, 25, 26, 27, 28, 29, 30, 31, 32, 33, 34, 35, 36, 37, 38, 39, 40, 41, 42, 43, 44, 45, 46, 47, 48, 49, 13, 50, 51, 52, 53, 54, 55, 56, 57, 58, 59, 60, 61, 62, 63, 64, 65, 66, 67, 68, 69, 70, 71, 72, 73, 74, 143, 144, 145, 146, 147, 148, 149, 150, 151, 158, 159, 160, 161, 162, 163, 164, 165, 166, 152, 153, 154, 155, 156, 157] (by decide +kernel) (by decide +kernel)
set_option maxRecDepth 20000 in
theorem gX5_component_X0_sumOfOwnSigns : GoodIn wsX5_component (wsV RX5 145 RX0 yX0_sumOfOwnSigns wsX0_sumOfOwnSigns) := goodIn_app (goodIn_of _ (by decide +kernel)) ggX5_component_X0_sumOfOwnSigns
set_option maxRecDepth 20000 in
theorem ggX5_component_X0_pieceOfComponent : GoodIn wsX5_component wsX0_pieceOfComponent := goodIn_r _ [117, 36, 118, 87, 88, 13, 89, 90, 91, 92, 93, 94, 15, 119, 120, 121, 19, 122, 123, 37, 124, 125, 126, 44, 127, 128, 100, 101, 102, 103, 104, 129, 130, 131, 83, 132, 133, 134, 135, 136, 137, 138, 143, 144, 145, 146, 147, 148, 149, 150, 151, 152, 153, 154, 155, 156, 157, 161, 162, 163, 164, 165, 166, 167, 168, 169, 170] (by decide +kernel) (by decide +kernel)
set_option maxRecDepth 20000 in
theorem gX5_component_X0_pieceOfComponent : GoodIn wsX5_component (wsV RX5 148 RX0 yX0_pieceOfComponent wsX0_pieceOfComponent) := goodIn_app (goodIn_of _ (by decide +kernel)) ggX5_component_X0_pieceOfComponent
theorem dX5_component_0 : decode cX5_component 0 = .ok (.aload_n 0, 1) := by decide +kernel
theorem dX5_component_1 : decode cX5_component 1 = .ok (.iload_n 1, 1) := by decide +kernel
theorem dX5_component_2 : decode cX5_component 2 = .ok (.invokevirtual 129, 3) := by decide +kernel
theorem dX5_component_5 : decode cX5_component 5 = .ok (.ifCond .ne 7, 3) := by decide +kernel
theorem dX5_component_8 : decode cX5_component 8 = .ok (.sipush (-1000), 3) := by decide +kernel
theorem dX5_component_11 : decode cX5_component 11 = .ok (.ireturn, 1) := by decide +kernel
theorem dX5_component_12 : decode cX5_component 12 = .ok (.iload_n 2, 1) := by decide +kernel
theorem dX5_component_13 : decode cX5_component 13 = .ok (.bipush 10, 2) := by decide +kernel
theorem dX5_component_15 : decode cX5_component 15 = .ok (.if_icmp .lt 32, 3) := by decide +kernel
theorem dX5_component_18 : decode cX5_component 18 = .ok (.iload_n 2, 1) := by decide +kernel
theorem dX5_component_19 : decode cX5_component 19 = .ok (.bipush 10, 2) := by decide +kernel
theorem dX5_component_21 : decode cX5_component 21 = .ok (.isub, 1) := by decide +kernel
theorem dX5_component_22 : decode cX5_component 22 = .ok (.istore_n 3, 1) := by decide +kernel
theorem dX5_component_23 : decode cX5_component 23 = .ok (.aload_n 0, 1) := by decide +kernel
theorem dX5_component_24 : decode cX5_component 24 = .ok (.iload_n 3, 1) := by decide +kernel
theorem dX5_component_25 : decode cX5_component 25 = .ok (.invokevirtual 129, 3) := by decide +kernel
theorem dX5_component_28 : decode cX5_component 28 = .ok (.ifCond .eq 15, 3) := by decide +kernel
theorem dX5_component_31 : decode cX5_component 31 = .ok (.aload_n 0, 1) := by decide +kernel
theorem dX5_component_32 : decode cX5_component 32 = .ok (.getfield 16, 3) := by decide +kernel
theorem dX5_component_35 : decode cX5_component 35 = .ok (.iload_n 1, 1) := by decide +kernel
theorem dX5_component_36 : decode cX5_component 36 = .ok (.iload_n 3, 1) := by decide +kernel
theorem dX5_component_37 : decode cX5_component 37 = .ok (.invokevirtual 132, 3) := by decide +kernel
theorem dX5_component_40 : decode cX5_component 40 = .ok (.goto 6, 3) := by decide +kernel
theorem dX5_component_43 : decode cX5_component 43 = .ok (.sipush (-1000), 3) := by decide +kernel
theorem dX5_component_46 : decode cX5_component 46 = .ok (.ireturn, 1) := by decide +kernel
theorem dX5_component_47 : decode cX5_component 47 = .ok (.iload_n 1, 1) := by decide +kernel
theorem dX5_component_48 : decode cX5_component 48 = .ok (.aload_n 0, 1) := by decide +kernel
theorem dX5_component_49 : decode cX5_component 49 = .ok (.getfield 16, 3) := by decide +kernel
theorem dX5_component_52 : decode cX5_component 52 = .ok (.getfield 61, 3) := by decide +kernel
theorem dX5_component_55 : decode cX5_component 55 = .ok (.invokevirtual 65, 3) := by decide +kernel
theorem dX5_component_58 : decode cX5_component 58 = .ok (.if_icmp .lt 21, 3) := by decide +kernel
theorem dX5_component_61 : decode cX5_component 61 = .ok (.aload_n 0, 1) := by decide +kernel
theorem dX5_component_62 : decode cX5_component 62 = .ok (.iload_n 1, 1) := by decide +kernel
theorem dX5_component_63 : decode cX5_component 63 = .ok (.aload_n 0, 1) := by decide +kernel
theorem dX5_component_64 : decode cX5_component 64 = .ok (.getfield 16, 3) := by decide +kernel
theorem dX5_component_67 : decode cX5_component 67 = .ok (.getfield 61, 3) := by decide +kernel
theorem dX5_component_70 : decode cX5_component 70 = .ok (.invokevirtual 65, 3) := by decide +kernel
theorem dX5_component_73 : decode cX5_component 73 = .ok (.isub, 1) := by decide +kernel
theorem dX5_component_74 : decode cX5_component 74 = .ok (.iload_n 2, 1) := by decide +kernel
theorem dX5_component_75 : decode cX5_component 75 = .ok (.invokevirtual 136, 3) := by decide +kernel
theorem dX5_component_78 : decode cX5_component 78 = .ok (.ireturn, 1) := by decide +kernel
theorem dX5_component_79 : decode cX5_component 79 = .ok (.iload_n 2, 1) := by decide +kernel
theorem dX5_component_80 : decode cX5_component 80 = .ok (.tableswitch 84 0 3 #[32, 54, 66, 75], 32) := by decide +kernel
theorem dX5_component_112 : decode cX5_component 112 = .ok (.aload_n 0, 1) := by decide +kernel
theorem dX5_component_113 : decode cX5_component 113 = .ok (.getfield 16, 3) := by decide +kernel
theorem dX5_component_116 : decode cX5_component 116 = .ok (.getfield 52, 3) := by decide +kernel
theorem dX5_component_119 : decode cX5_component 119 = .ok (.aload_n 0, 1) := by decide +kernel
theorem dX5_component_120 : decode cX5_component 120 = .ok (.getfield 16, 3) := by decide +kernel
theorem dX5_component_123 : decode cX5_component 123 = .ok (.getfield 61, 3) := by decide +kernel
theorem dX5_component_126 : decode cX5_component 126 = .ok (.iload_n 1, 1) := by decide +kernel
theorem dX5_component_127 : decode cX5_component 127 = .ok (.invokevirtual 139, 3) := by decide +kernel
theorem dX5_component_130 : decode cX5_component 130 = .ok (.invokevirtual 122, 3) := by decide +kernel
theorem dX5_component_133 : decode cX5_component 133 = .ok (.ireturn, 1) := by decide +kernel
theorem dX5_component_134 : decode cX5_component 134 = .ok (.aload_n 0, 1) := by decide +kernel
theorem dX5_component_135 : decode cX5_component 135 = .ok (.getfield 16, 3) := by decide +kernel
theorem dX5_component_138 : decode cX5_component 138 = .ok (.getfield 61, 3) := by decide +kernel
theorem dX5_component_141 : decode cX5_component 141 = .ok (.iload_n 1, 1) := by decide +kernel
theorem dX5_component_142 : decode cX5_component 142 = .ok (.invokevirtual 142, 3) := by decide +kernel
theorem dX5_component_145 : decode cX5_component 145 = .ok (.ireturn, 1) := by decide +kernel
theorem dX5_component_146 : decode cX5_component 146 = .ok (.aload_n 0, 1) := by decide +kernel
theorem dX5_component_147 : decode cX5_component 147 = .ok (.getfield 16, 3) := by decide +kernel
theorem dX5_component_150 : decode cX5_component 150 = .ok (.iload_n 1, 1) := by decide +kernel
theorem dX5_component_151 : decode cX5_component 151 = .ok (.invokevirtual 145, 3) := by decide +kernel
theorem dX5_component_154 : decode cX5_component 154 = .ok (.ireturn, 1) := by decide +kernel
theorem dX5_component_155 : decode cX5_component 155 = .ok (.aload_n 0, 1) := by decide +kernel
theorem dX5_component_156 : decode cX5_component 156 = .ok (.getfield 16, 3) := by decide +kernel
theorem dX5_component_159 : decode cX5_component 159 = .ok (.iload_n 1, 1) := by decide +kernel
theorem dX5_component_160 : decode cX5_component 160 = .ok (.invokevirtual 148, 3) := by decide +kernel
theorem dX5_component_163 : decode cX5_component 163 = .ok (.ireturn, 1) := by decide +kernel
theorem dX5_component_164 : decode cX5_component 164 = .ok (.sipush (-1000), 3) := by decide +kernel
theorem dX5_component_167 : decode cX5_component 167 = .ok (.ireturn, 1) := by decide +kernel
set_option maxRecDepth 20000 in
theorem ggX5_face_X3_size : GoodIn wsX5_face wsX3_size := goodIn_r _ [8, 9, 10, 11, 12, 7, 13, 14, 58, 59, 60, 61, 62, 63] (by decide +kernel) (by decide +kernel)
set_option maxRecDepth 20000 in
theorem gX5_face_X3_size : GoodIn wsX5_face (wsV RX5 142 RX3 yX3_size wsX3_size) := goodIn_app (goodIn_of _ (by decide +kernel)) ggX5_face_X3_size
set_option maxRecDepth 20000 in
theorem ggX5_face_X3_member : GoodIn wsX5_face wsX3_member := goodIn_r _ [18, 19, 20, 21, 7, 22, 23, 10, 11, 12, 13, 14, 24, 25, 26, 27, 28, 29, 30, 31, 32, 33, 58, 59, 60, 61, 62, 63] (by decide +kernel) (by decide +kernel)
set_option maxRecDepth 20000 in
theorem gX5_face_X3_member : GoodIn wsX5_face (wsV RX5 151 RX3 yX3_member wsX3_member) := goodIn_app (goodIn_of _ (by decide +kernel)) ggX5_face_X3_member
set_option maxRecDepth 20000 in
theorem ggX5_face_X1_label : GoodIn wsX5_face wsX1_label := goodIn_r _ [38, 39, 40, 41, 42, 37, 43, 44, 64, 65, 66, 67, 68, 69] (by decide +kernel) (by decide +kernel)
set_option maxRecDepth 20000 in
theorem gX5_face_X1_label : GoodIn wsX5_face (wsV RX5 122 RX1 yX1_label wsX1_label) := goodIn_app (goodIn_of _ (by decide +kernel)) ggX5_face_X1_label
theorem dX5_face_0 : decode cX5_face 0 = .ok (.aload_n 0, 1) := by decide +kernel
theorem dX5_face_1 : decode cX5_face 1 = .ok (.getfield 16, 3) := by decide +kernel
theorem dX5_face_4 : decode cX5_face 4 = .ok (.getfield 78, 3) := by decide +kernel
theorem dX5_face_7 : decode cX5_face 7 = .ok (.iload_n 1, 1) := by decide +kernel
theorem dX5_face_8 : decode cX5_face 8 = .ok (.invokevirtual 142, 3) := by decide +kernel
theorem dX5_face_11 : decode cX5_face 11 = .ok (.istore_n 3, 1) := by decide +kernel
theorem dX5_face_12 : decode cX5_face 12 = .ok (.iload_n 2, 1) := by decide +kernel
theorem dX5_face_13 : decode cX5_face 13 = .ok (.iconst (-1), 1) := by decide +kernel
theorem dX5_face_14 : decode cX5_face 14 = .ok (.if_icmp .ne 5, 3) := by decide +kernel
theorem dX5_face_17 : decode cX5_face 17 = .ok (.iload_n 3, 1) := by decide +kernel
theorem dX5_face_18 : decode cX5_face 18 = .ok (.ireturn, 1) := by decide +kernel
theorem dX5_face_19 : decode cX5_face 19 = .ok (.iload_n 2, 1) := by decide +kernel
theorem dX5_face_20 : decode cX5_face 20 = .ok (.ifCond .lt 8, 3) := by decide +kernel
theorem dX5_face_23 : decode cX5_face 23 = .ok (.iload_n 2, 1) := by decide +kernel
theorem dX5_face_24 : decode cX5_face 24 = .ok (.iload_n 3, 1) := by decide +kernel
theorem dX5_face_25 : decode cX5_face 25 = .ok (.if_icmp .lt 5, 3) := by decide +kernel
theorem dX5_face_28 : decode cX5_face 28 = .ok (.iconst 0, 1) := by decide +kernel
theorem dX5_face_29 : decode cX5_face 29 = .ok (.ireturn, 1) := by decide +kernel
theorem dX5_face_30 : decode cX5_face 30 = .ok (.aload_n 0, 1) := by decide +kernel
theorem dX5_face_31 : decode cX5_face 31 = .ok (.getfield 16, 3) := by decide +kernel
theorem dX5_face_34 : decode cX5_face 34 = .ok (.getfield 78, 3) := by decide +kernel
theorem dX5_face_37 : decode cX5_face 37 = .ok (.iload_n 1, 1) := by decide +kernel
theorem dX5_face_38 : decode cX5_face 38 = .ok (.iload_n 2, 1) := by decide +kernel
theorem dX5_face_39 : decode cX5_face 39 = .ok (.invokevirtual 151, 3) := by decide +kernel
theorem dX5_face_42 : decode cX5_face 42 = .ok (.istore 4, 2) := by decide +kernel
theorem dX5_face_44 : decode cX5_face 44 = .ok (.aload_n 0, 1) := by decide +kernel
theorem dX5_face_45 : decode cX5_face 45 = .ok (.getfield 16, 3) := by decide +kernel
theorem dX5_face_48 : decode cX5_face 48 = .ok (.getfield 52, 3) := by decide +kernel
theorem dX5_face_51 : decode cX5_face 51 = .ok (.iload 4, 2) := by decide +kernel
theorem dX5_face_53 : decode cX5_face 53 = .ok (.iconst 2, 1) := by decide +kernel
theorem dX5_face_54 : decode cX5_face 54 = .ok (.idiv, 1) := by decide +kernel
theorem dX5_face_55 : decode cX5_face 55 = .ok (.invokevirtual 122, 3) := by decide +kernel
theorem dX5_face_58 : decode cX5_face 58 = .ok (.istore 5, 2) := by decide +kernel
theorem dX5_face_60 : decode cX5_face 60 = .ok (.iload 4, 2) := by decide +kernel
theorem dX5_face_62 : decode cX5_face 62 = .ok (.iconst 2, 1) := by decide +kernel
theorem dX5_face_63 : decode cX5_face 63 = .ok (.irem, 1) := by decide +kernel
theorem dX5_face_64 : decode cX5_face 64 = .ok (.ifCond .ne 8, 3) := by decide +kernel
theorem dX5_face_67 : decode cX5_face 67 = .ok (.iload 5, 2) := by decide +kernel
theorem dX5_face_69 : decode cX5_face 69 = .ok (.goto 6, 3) := by decide +kernel
theorem dX5_face_72 : decode cX5_face 72 = .ok (.iload 5, 2) := by decide +kernel
theorem dX5_face_74 : decode cX5_face 74 = .ok (.ineg, 1) := by decide +kernel
theorem dX5_face_75 : decode cX5_face 75 = .ok (.ireturn, 1) := by decide +kernel
set_option maxRecDepth 20000 in
theorem ggX5_mirror_X4_exchangeAllStrands : GoodIn wsX5_mirror wsX4_exchangeAllStrands := goodIn_r _ [7, 8, 9, 10, 11, 6, 12, 13, 14, 15, 16, 17, 18, 19, 20, 21, 22, 23, 24, 25, 26, 27, 28, 29, 30, 31, 32, 33, 34, 271, 272, 273] (by decide +kernel) (by decide +kernel)
set_option maxRecDepth 20000 in
theorem gX5_mirror_X4_exchangeAllStrands : GoodIn wsX5_mirror (wsV RX5 154 RX4 yX4_exchangeAllStrands wsX4_exchangeAllStrands) := goodIn_app (goodIn_of _ (by decide +kernel)) ggX5_mirror_X4_exchangeAllStrands
set_option maxRecDepth 20000 in
theorem ggX5_mirror_X0_survey : GoodIn wsX5_mirror wsX0_survey := goodIn_r _ [39, 40, 41, 42, 43, 44, 45, 46, 47, 48, 49, 50, 51, 52, 53, 6, 54, 8, 55, 56, 57, 58, 30, 59, 60, 61, 62, 63, 64, 65, 66, 67, 68, 69, 70, 71, 72, 73, 74, 75, 76, 77, 78, 79, 80, 81, 82, 83, 84, 85, 86, 87, 88, 89, 90, 91, 92, 93, 94, 95, 96, 17, 18, 19, 20, 21, 22, 23, 24, 25, 97, 98, 99, 100, 101, 102, 103, 104, 38, 105, 106, 107, 108, 109, 110, 111, 112, 113, 114, 115, 116, 117, 118, 119, 120, 121, 122, 123, 124, 125, 126, 127, 128, 129, 130, 131, 132, 133, 134, 135, 136, 137, 138, 139, 140, 141, 142, 143, 144, 145, 146, 147, 148, 149, 150, 151, 152, 153, 154, 155, 156, 157, 158, 159, 160, 161, 162, 163, 164, 165, 166, 167, 168, 169, 170, 171, 172, 173, 174, 175, 176, 177, 178, 179, 180, 181, 182, 183, 184, 185, 186, 187, 188, 189, 190, 191, 192, 193, 194, 195, 196, 197, 198, 199, 200, 201, 202, 203, 204, 205, 206, 207, 208, 209, 210, 211, 212, 213, 214, 215, 216, 217, 218, 219, 220, 221, 222, 223, 224, 225, 226, 227, 228, 229, 230, 231, 232, 233, 234, 235, 236, 237, 238, 239, 240, 241, 242, 243, 244, 245, 246, 247, 248, 249, 250, 251, 252, 253, 254, 255, 256, 257, 262, 263, 264, 265, 266, 267, 268, 269, 270, 274, 275, 276, 277, 278, 279, 271, 272, 273, 280, 281, 282, 283, 284, 285, 286, 287, 288, 289] (by decide +kernel) (by decide +kernel)
set_option maxRecDepth 20000 in
theorem gX5_mirror_X0_survey : GoodIn wsX5_mirror (wsV RX5 44 RX0 yX0_survey wsX0_survey) := goodIn_app (goodIn_of _ (by decide +kernel)) ggX5_mirror_X0_survey
theorem dX5_mirror_0 : decode cX5_mirror 0 = .ok (.aload_n 0, 1) := by decide +kernel
theorem dX5_mirror_1 : decode cX5_mirror 1 = .ok (.getfield 16, 3) := by decide +kernel
theorem dX5_mirror_4 : decode cX5_mirror 4 = .ok (.getfield 30, 3) := by decide +kernel
theorem dX5_mirror_7 : decode cX5_mirror 7 = .ok (.invokevirtual 154, 3) := by decide +kernel
theorem dX5_mirror_10 : decode cX5_mirror 10 = .ok (.aload_n 0, 1) := by decide +kernel
theorem dX5_mirror_11 : decode cX5_mirror 11 = .ok (.getfield 16, 3) := by decide +kernel
theorem dX5_mirror_14 : decode cX5_mirror 14 = .ok (.invokevirtual 44, 3) := by decide +kernel
theorem dX5_mirror_17 : decode cX5_mirror 17 = .ok (.pop, 1) := by decide +kernel
theorem dX5_mirror_18 : decode cX5_mirror 18 = .ok (.return_, 1) := by decide +kernel
set_option maxRecDepth 20000 in
theorem ggX5_reverse_X5_hasComponent : GoodIn wsX5_reverse wsX5_hasComponent := goodIn_r _ [6, 1, 7, 8, 9, 10, 11, 12, 13, 14, 280, 281, 282, 283, 284, 285, 286, 287, 288, 289, 290, 291, 292, 293, 294, 295, 296, 297, 298] (by decide +kernel) (by decide +kernel)
set_option maxRecDepth 20000 in
theorem gX5_reverse_X5_hasComponent : GoodIn wsX5_reverse (wsV RX5 129 RX5 yX5_hasComponent wsX5_hasComponent) := goodIn_app (goodIn_of _ (by decide +kernel)) ggX5_reverse_X5_hasComponent
set_option maxRecDepth 20000 in
theorem ggX5_reverse_X0_turnComponent : GoodIn wsX5_reverse wsX0_turnComponent := goodIn_r _ [19, 20, 21, 22, 23, 24, 25, 26, 27, 28, 29, 18, 30, 31, 32, 33, 34, 35, 36, 37, 38, 39, 40, 41, 42, 43, 44, 12, 45, 46, 47, 48, 49, 50, 51, 52, 53, 54, 55, 56, 57, 58, 59, 60, 61, 62, 63, 64, 65, 66, 67, 68, 69, 70, 71, 72, 73, 74, 75, 76, 77, 78, 79, 80, 81, 284, 285, 286, 287, 288, 289, 290, 291, 292, 299, 300, 301, 302, 303, 304, 305, 306, 307, 293, 294, 295, 296, 297, 298] (by decide +kernel) (by decide +kernel)
set_option maxRecDepth 20000 in
theorem gX5_reverse_X0_turnComponent : GoodIn wsX5_reverse (wsV RX5 157 RX0 yX0_turnComponent wsX0_turnComponent) := goodIn_app (goodIn_of _ (by decide +kernel)) ggX5_reverse_X0_turnComponent
set_option maxRecDepth 20000 in
theorem ggX5_reverse_X0_survey : GoodIn wsX5_reverse wsX0_survey := goodIn_r _ [85, 32, 20, 86, 87, 88, 89, 39, 90, 91, 92, 93, 94, 95, 96, 24, 97, 26, 98, 99, 100, 101, 77, 102, 103, 104, 105, 106, 107, 108, 109, 110, 111, 112, 113, 114, 115, 116, 117, 118, 119, 120, 121, 122, 123, 124, 125, 126, 127, 128, 129, 130, 131, 132, 133, 134, 135, 136, 137, 138, 139, 60, 61, 62, 63, 64, 65, 66, 67, 68, 140, 141, 142, 143, 41, 144, 145, 146, 18, 147, 148, 21, 22, 23, 25, 149, 150, 151, 152, 153, 154, 155, 156, 157, 158, 159, 160, 161, 162, 163, 164, 165, 166, 167, 168, 169, 170, 171, 172, 173, 174, 175, 176, 177, 178, 179, 180, 181, 182, 183, 184, 185, 186, 187, 188, 189, 190, 191, 192, 193, 194, 195, 196, 197, 198, 199, 200, 201, 202, 203, 204, 12, 205, 206, 51, 14, 207, 208, 209, 210, 211, 212, 213, 214, 37, 38, 40, 215, 216, 217, 218, 219, 220, 47, 48, 49, 50, 221, 222, 223, 224, 46, 225, 226, 227, 228, 229, 230, 231, 232, 233, 234, 235, 236, 237, 238, 239, 240, 241, 242, 10, 11, 13, 243, 244, 245, 246, 247, 248, 249, 250, 251, 252, 253, 254, 255, 256, 257, 258, 31, 259, 260, 261, 262, 36, 263, 264, 265, 266, 267, 268, 269, 270, 271, 272, 273, 274, 275, 276, 277, 278, 279, 284, 285, 286, 287, 288, 289, 290, 291, 292, 302, 303, 304, 305, 306, 307, 299, 300, 301, 308, 309, 310, 311, 293, 294, 295, 296, 297, 298] (by decide +kernel) (by decide +kernel)
set_option maxRecDepth 20000 in
theorem gX5_reverse_X0_survey : GoodIn wsX5_reverse (wsV RX5 44 RX0 yX0_survey wsX0_survey) := goodIn_app (goodIn_of _ (by decide +kernel)) ggX5_reverse_X0_survey
theorem dX5_reverse_0 : decode cX5_reverse 0 = .ok (.aload_n 0, 1) := by decide +kernel
theorem dX5_reverse_1 : decode cX5_reverse 1 = .ok (.iload_n 1, 1) := by decide +kernel
theorem dX5_reverse_2 : decode cX5_reverse 2 = .ok (.invokevirtual 129, 3) := by decide +kernel
theorem dX5_reverse_5 : decode cX5_reverse 5 = .ok (.ifCond .ne 5, 3) := by decide +kernel
theorem dX5_reverse_8 : decode cX5_reverse 8 = .ok (.iconst 0, 1) := by decide +kernel
theorem dX5_reverse_9 : decode cX5_reverse 9 = .ok (.ireturn, 1) := by decide +kernel
theorem dX5_reverse_10 : decode cX5_reverse 10 = .ok (.aload_n 0, 1) := by decide +kernel
theorem dX5_reverse_11 : decode cX5_reverse 11 = .ok (.getfield 16, 3) := by decide +kernel
theorem dX5_reverse_14 : decode cX5_reverse 14 = .ok (.iload_n 1, 1) := by decide +kernel
theorem dX5_reverse_15 : decode cX5_reverse 15 = .ok (.invokevirtual 157, 3) := by decide +kernel
theorem dX5_reverse_18 : decode cX5_reverse 18 = .ok (.aload_n 0, 1) := by decide +kernel
theorem dX5_reverse_19 : decode cX5_reverse 19 = .ok (.getfield 16, 3) := by decide +kernel
theorem dX5_reverse_22 : decode cX5_reverse 22 = .ok (.invokevirtual 44, 3) := by decide +kernel
theorem dX5_reverse_25 : decode cX5_reverse 25 = .ok (.pop, 1) := by decide +kernel
theorem dX5_reverse_26 : decode cX5_reverse 26 = .ok (.iconst 1, 1) := by decide +kernel
theorem dX5_reverse_27 : decode cX5_reverse 27 = .ok (.ireturn, 1) := by decide +kernel
set_option maxRecDepth 20000 in
theorem ggX5_number_X0_labelAnew : GoodIn wsX5_number wsX0_labelAnew := goodIn_r _ [6, 7, 8, 9, 10, 11, 12, 5, 13, 14, 15, 16, 17, 18, 19, 20, 21, 22, 23, 24, 25, 26, 27, 28, 29, 30, 31, 32, 33, 34, 35, 36, 37, 38, 39, 40, 41, 42, 43, 44, 45, 46, 47, 48, 49, 50, 51, 52, 53, 54, 55, 56, 57, 58, 59, 60, 61, 62, 259, 260, 261, 262, 263, 264, 265, 266, 267, 268, 269, 270, 271, 272, 273, 274, 275, 276, 277, 278, 279, 280, 281, 282] (by decide +kernel) (by decide +kernel)
set_option maxRecDepth 20000 in
theorem gX5_number_X0_labelAnew : GoodIn wsX5_number (wsV RX5 161 RX0 yX0_labelAnew wsX0_labelAnew) := goodIn_app (goodIn_of _ (by decide +kernel)) ggX5_number_X0_labelAnew
set_option maxRecDepth 20000 in
theorem ggX5_number_X0_survey : GoodIn wsX5_number wsX0_survey := goodIn_r _ [66, 8, 7, 67, 68, 69, 70, 54, 71, 72, 73, 74, 75, 46, 47, 48, 49, 50, 76, 77, 78, 79, 61, 62, 80, 81, 82, 83, 84, 85, 86, 87, 88, 89, 90, 91, 92, 93, 94, 95, 96, 97, 98, 99, 100, 101, 102, 103, 104, 105, 106, 107, 108, 109, 110, 111, 112, 113, 114, 115, 116, 117, 118, 119, 120, 121, 122, 123, 124, 125, 126, 127, 128, 129, 56, 130, 131, 132, 5, 133, 134, 135, 136, 137, 138, 139, 140, 141, 142, 143, 144, 145, 146, 147, 148, 149, 150, 151, 152, 153, 154, 155, 156, 157, 158, 159, 160, 161, 162, 163, 164, 165, 166, 167, 168, 169, 170, 171, 172, 173, 174, 175, 176, 177, 178, 179, 180, 181, 182, 183, 184, 185, 186, 187, 188, 189, 190, 191, 192, 193, 194, 18, 195, 196, 44, 20, 197, 198, 199, 200, 201, 202, 203, 204, 52, 53, 55, 205, 206, 207, 208, 209, 39, 40, 41, 42, 43, 210, 211, 212, 213, 214, 215, 216, 217, 218, 219, 25, 34, 220, 221, 222, 223, 224, 225, 226, 227, 228, 229, 15, 16, 17, 19, 21, 22, 23, 24, 26, 27, 28, 29, 230, 231, 232, 233, 234, 235, 236, 237, 14, 238, 239, 240, 241, 51, 242, 243, 244, 245, 246, 247, 248, 249, 250, 251, 252, 253, 254, 35, 36, 37, 38, 259, 260, 261, 262, 263, 264, 265, 266, 267, 277, 278, 279, 280, 281, 282, 274, 275, 276, 283, 284, 285, 286, 268, 269, 270, 271, 272, 273] (by decide +kernel) (by decide +kernel)
set_option maxRecDepth 20000 in
theorem gX5_number_X0_survey : GoodIn wsX5_number (wsV RX5 44 RX0 yX0_survey wsX0_survey) := goodIn_app (goodIn_of _ (by decide +kernel)) ggX5_number_X0_survey
theorem dX5_number_0 : decode cX5_number 0 = .ok (.aload_n 0, 1) := by decide +kernel
theorem dX5_number_1 : decode cX5_number 1 = .ok (.getfield 16, 3) := by decide +kernel
theorem dX5_number_4 : decode cX5_number 4 = .ok (.invokevirtual 161, 3) := by decide +kernel
theorem dX5_number_7 : decode cX5_number 7 = .ok (.aload_n 0, 1) := by decide +kernel
theorem dX5_number_8 : decode cX5_number 8 = .ok (.getfield 16, 3) := by decide +kernel
theorem dX5_number_11 : decode cX5_number 11 = .ok (.invokevirtual 44, 3) := by decide +kernel
theorem dX5_number_14 : decode cX5_number 14 = .ok (.pop, 1) := by decide +kernel
theorem dX5_number_15 : decode cX5_number 15 = .ok (.return_, 1) := by decide +kernel
set_option maxRecDepth 20000 in
theorem ggX5_change_X4_has : GoodIn wsX5_change wsX4_has := goodIn_r _ [7, 8, 268, 269, 270] (by decide +kernel) (by decide +kernel)
set_option maxRecDepth 20000 in
theorem gX5_change_X4_has : GoodIn wsX5_change (wsV RX5 91 RX4 yX4_has wsX4_has) := goodIn_app (goodIn_of _ (by decide +kernel)) ggX5_change_X4_has
set_option maxRecDepth 20000 in
theorem ggX5_change_X4_exchangeStrands : GoodIn wsX5_change wsX4_exchangeStrands := goodIn_r _ [12, 13, 14, 15, 6, 16, 17, 18, 19, 20, 21, 22, 4, 5, 7, 8, 23, 24, 25, 26, 27, 28, 29, 30, 31, 268, 269, 270] (by decide +kernel) (by decide +kernel)
set_option maxRecDepth 20000 in
theorem gX5_change_X4_exchangeStrands : GoodIn wsX5_change (wsV RX5 164 RX4 yX4_exchangeStrands wsX4_exchangeStrands) := goodIn_app (goodIn_of _ (by decide +kernel)) ggX5_change_X4_exchangeStrands
set_option maxRecDepth 20000 in
theorem ggX5_change_X0_survey : GoodIn wsX5_change wsX0_survey := goodIn_r _ [36, 37, 38, 39, 40, 41, 42, 43, 44, 45, 46, 47, 48, 49, 50, 6, 51, 8, 52, 53, 54, 55, 27, 56, 57, 58, 59, 60, 61, 62, 63, 64, 65, 66, 67, 68, 69, 70, 71, 72, 73, 74, 75, 76, 77, 78, 79, 80, 81, 82, 83, 84, 85, 86, 87, 88, 89, 90, 91, 92, 93, 17, 18, 19, 20, 21, 22, 4, 5, 7, 94, 95, 96, 97, 98, 99, 100, 101, 35, 102, 103, 104, 105, 106, 107, 108, 109, 110, 111, 112, 113, 114, 115, 116, 117, 118, 119, 120, 121, 122, 123, 124, 125, 126, 127, 128, 129, 130, 131, 132, 133, 134, 135, 136, 137, 138, 139, 140, 141, 142, 143, 144, 145, 146, 147, 148, 149, 150, 151, 152, 153, 154, 155, 156, 157, 158, 159, 160, 161, 162, 163, 164, 165, 166, 167, 168, 169, 170, 171, 172, 173, 174, 175, 176, 177, 178, 179, 180, 181, 182, 183, 184, 185, 186, 187, 188, 189, 190, 191, 192, 193, 194, 195, 196, 197, 198, 199, 200, 201, 202, 203, 204, 205, 206, 207, 208, 209, 210, 211, 212, 213, 214, 215, 216, 217, 218, 219, 220, 221, 222, 223, 224, 225, 226, 227, 228, 229, 230, 231, 232, 233, 234, 235, 236, 237, 238, 239, 240, 241, 242, 243, 244, 245, 246, 247, 248, 249, 250, 251, 252, 253, 254, 259, 260, 261, 262, 263, 264, 265, 266, 267, 271, 272, 273, 274, 275, 276, 268, 269, 270, 277, 278, 279, 280, 281, 282, 283, 284, 285, 286] (by decide +kernel) (by decide +kernel)
set_option maxRecDepth 20000 in
theorem gX5_change_X0_survey : GoodIn wsX5_change (wsV RX5 44 RX0 yX0_survey wsX0_survey) := goodIn_app (goodIn_of _ (by decide +kernel)) ggX5_change_X0_survey
theorem dX5_change_0 : decode cX5_change 0 = .ok (.aload_n 0, 1) := by decide +kernel
theorem dX5_change_1 : decode cX5_change 1 = .ok (.getfield 16, 3) := by decide +kernel
theorem dX5_change_4 : decode cX5_change 4 = .ok (.getfield 30, 3) := by decide +kernel
theorem dX5_change_7 : decode cX5_change 7 = .ok (.iload_n 1, 1) := by decide +kernel
theorem dX5_change_8 : decode cX5_change 8 = .ok (.invokevirtual 91, 3) := by decide +kernel
theorem dX5_change_11 : decode cX5_change 11 = .ok (.ifCond .ne 5, 3) := by decide +kernel
theorem dX5_change_14 : decode cX5_change 14 = .ok (.iconst 0, 1) := by decide +kernel
theorem dX5_change_15 : decode cX5_change 15 = .ok (.ireturn, 1) := by decide +kernel
theorem dX5_change_16 : decode cX5_change 16 = .ok (.aload_n 0, 1) := by decide +kernel
theorem dX5_change_17 : decode cX5_change 17 = .ok (.getfield 16, 3) := by decide +kernel
theorem dX5_change_20 : decode cX5_change 20 = .ok (.getfield 30, 3) := by decide +kernel
theorem dX5_change_23 : decode cX5_change 23 = .ok (.iload_n 1, 1) := by decide +kernel
theorem dX5_change_24 : decode cX5_change 24 = .ok (.invokevirtual 164, 3) := by decide +kernel
theorem dX5_change_27 : decode cX5_change 27 = .ok (.aload_n 0, 1) := by decide +kernel
theorem dX5_change_28 : decode cX5_change 28 = .ok (.getfield 16, 3) := by decide +kernel
theorem dX5_change_31 : decode cX5_change 31 = .ok (.invokevirtual 44, 3) := by decide +kernel
theorem dX5_change_34 : decode cX5_change 34 = .ok (.pop, 1) := by decide +kernel
theorem dX5_change_35 : decode cX5_change 35 = .ok (.iconst 1, 1) := by decide +kernel
theorem dX5_change_36 : decode cX5_change 36 = .ok (.ireturn, 1) := by decide +kernel
set_option maxRecDepth 20000 in
theorem ggX5_smooth_X4_has : GoodIn wsX5_smooth wsX4_has := goodIn_r _ [8, 9, 275, 276, 277] (by decide +kernel) (by decide +kernel)
set_option maxRecDepth 20000 in
theorem gX5_smooth_X4_has : GoodIn wsX5_smooth (wsV RX5 91 RX4 yX4_has wsX4_has) := goodIn_app (goodIn_of _ (by decide +kernel)) ggX5_smooth_X4_has
set_option maxRecDepth 20000 in
theorem ggX5_smooth_X4_smoothAway : GoodIn wsX5_smooth wsX4_smoothAway := goodIn_r _ [13, 14, 5, 6, 7, 8, 9, 15, 16, 17, 18, 19, 20, 21, 22, 23, 24, 25, 26, 27, 28, 29, 30, 31, 32, 33, 34, 35, 36, 37, 38, 39, 40, 41, 42, 43, 44, 45, 46, 47, 48, 49, 50, 51, 52, 53, 54, 55, 56, 57, 275, 276, 277] (by decide +kernel) (by decide +kernel)
set_option maxRecDepth 20000 in
theorem gX5_smooth_X4_smoothAway : GoodIn wsX5_smooth (wsV RX5 167 RX4 yX4_smoothAway wsX4_smoothAway) := goodIn_app (goodIn_of _ (by decide +kernel)) ggX5_smooth_X4_smoothAway
set_option maxRecDepth 20000 in
theorem ggX5_smooth_X0_survey : GoodIn wsX5_smooth wsX0_survey := goodIn_r _ [62, 63, 64, 65, 66, 67, 68, 69, 70, 71, 72, 73, 74, 24, 25, 7, 26, 9, 75, 19, 20, 21, 22, 23, 76, 77, 78, 79, 80, 81, 82, 83, 84, 85, 86, 87, 88, 89, 90, 91, 92, 93, 94, 95, 96, 97, 98, 99, 100, 101, 102, 103, 104, 105, 51, 52, 53, 27, 28, 29, 30, 31, 32, 33, 34, 35, 14, 5, 6, 8, 106, 107, 108, 109, 110, 111, 112, 113, 61, 114, 115, 116, 117, 118, 119, 120, 121, 122, 123, 124, 125, 41, 42, 43, 126, 127, 128, 129, 130, 131, 132, 133, 134, 135, 136, 137, 138, 139, 140, 141, 142, 143, 144, 45, 46, 145, 146, 147, 148, 149, 150, 151, 152, 153, 154, 155, 156, 157, 158, 159, 160, 161, 162, 163, 164, 165, 166, 167, 168, 169, 170, 171, 172, 173, 174, 175, 176, 177, 178, 179, 180, 181, 182, 183, 184, 185, 186, 187, 188, 189, 190, 191, 192, 193, 194, 195, 196, 197, 198, 199, 200, 201, 202, 203, 204, 205, 206, 207, 208, 209, 210, 211, 212, 213, 214, 215, 216, 217, 218, 219, 220, 221, 222, 223, 224, 225, 226, 227, 228, 229, 230, 231, 232, 233, 234, 235, 236, 237, 238, 239, 240, 241, 242, 243, 244, 245, 246, 247, 248, 249, 250, 251, 252, 253, 254, 255, 256, 257, 258, 259, 260, 261, 266, 267, 268, 269, 270, 271, 272, 273, 274, 278, 279, 280, 281, 282, 283, 275, 276, 277, 284, 285, 286, 287, 288, 289, 290, 291, 292, 293] (by decide +kernel) (by decide +kernel)
set_option maxRecDepth 20000 in
theorem gX5_smooth_X0_survey : GoodIn wsX5_smooth (wsV RX5 44 RX0 yX0_survey wsX0_survey) := goodIn_app (goodIn_of _ (by decide +kernel)) ggX5_smooth_X0_survey
theorem dX5_smooth_0 : decode cX5_smooth 0 = .ok (.aload_n 0, 1) := by decide +kernel
theorem dX5_smooth_1 : decode cX5_smooth 1 = .ok (.getfield 16, 3) := by decide +kernel
theorem dX5_smooth_4 : decode cX5_smooth 4 = .ok (.getfield 30, 3) := by decide +kernel
theorem dX5_smooth_7 : decode cX5_smooth 7 = .ok (.iload_n 1, 1) := by decide +kernel
theorem dX5_smooth_8 : decode cX5_smooth 8 = .ok (.invokevirtual 91, 3) := by decide +kernel
theorem dX5_smooth_11 : decode cX5_smooth 11 = .ok (.ifCond .ne 5, 3) := by decide +kernel
theorem dX5_smooth_14 : decode cX5_smooth 14 = .ok (.iconst 0, 1) := by decide +kernel
theorem dX5_smooth_15 : decode cX5_smooth 15 = .ok (.ireturn, 1) := by decide +kernel
theorem dX5_smooth_16 : decode cX5_smooth 16 = .ok (.aload_n 0, 1) := by decide +kernel
theorem dX5_smooth_17 : decode cX5_smooth 17 = .ok (.dup, 1) := by decide +kernel
theorem dX5_smooth_18 : decode cX5_smooth 18 = .ok (.getfield 19, 3) := by decide +kernel
theorem dX5_smooth_21 : decode cX5_smooth 21 = .ok (.aload_n 0, 1) := by decide +kernel
theorem dX5_smooth_22 : decode cX5_smooth 22 = .ok (.getfield 16, 3) := by decide +kernel
theorem dX5_smooth_25 : decode cX5_smooth 25 = .ok (.getfield 30, 3) := by decide +kernel
theorem dX5_smooth_28 : decode cX5_smooth 28 = .ok (.iload_n 1, 1) := by decide +kernel
theorem dX5_smooth_29 : decode cX5_smooth 29 = .ok (.invokevirtual 167, 3) := by decide +kernel
theorem dX5_smooth_32 : decode cX5_smooth 32 = .ok (.iadd, 1) := by decide +kernel
theorem dX5_smooth_33 : decode cX5_smooth 33 = .ok (.putfield 19, 3) := by decide +kernel
theorem dX5_smooth_36 : decode cX5_smooth 36 = .ok (.aload_n 0, 1) := by decide +kernel
theorem dX5_smooth_37 : decode cX5_smooth 37 = .ok (.getfield 16, 3) := by decide +kernel
theorem dX5_smooth_40 : decode cX5_smooth 40 = .ok (.invokevirtual 44, 3) := by decide +kernel
theorem dX5_smooth_43 : decode cX5_smooth 43 = .ok (.pop, 1) := by decide +kernel
theorem dX5_smooth_44 : decode cX5_smooth 44 = .ok (.iconst 1, 1) := by decide +kernel
theorem dX5_smooth_45 : decode cX5_smooth 45 = .ok (.ireturn, 1) := by decide +kernel
theorem dX5_isLabel_0 : decode cX5_isLabel 0 = .ok (.iload_n 0, 1) := by decide +kernel
theorem dX5_isLabel_1 : decode cX5_isLabel 1 = .ok (.iconst 1, 1) := by decide +kernel
theorem dX5_isLabel_2 : decode cX5_isLabel 2 = .ok (.if_icmp .lt 14, 3) := by decide +kernel
theorem dX5_isLabel_5 : decode cX5_isLabel 5 = .ok (.iload_n 0, 1) := by decide +kernel
theorem dX5_isLabel_6 : decode cX5_isLabel 6 = .ok (.sipush 9999, 3) := by decide +kernel
theorem dX5_isLabel_9 : decode cX5_isLabel 9 = .ok (.if_icmp .gt 7, 3) := by decide +kernel
theorem dX5_isLabel_12 : decode cX5_isLabel 12 = .ok (.iconst 1, 1) := by decide +kernel
theorem dX5_isLabel_13 : decode cX5_isLabel 13 = .ok (.goto 4, 3) := by decide +kernel
theorem dX5_isLabel_16 : decode cX5_isLabel 16 = .ok (.iconst 0, 1) := by decide +kernel
theorem dX5_isLabel_17 : decode cX5_isLabel 17 = .ok (.ireturn, 1) := by decide +kernel
set_option maxRecDepth 20000 in
theorem ggX5_hasComponent_X3_count : GoodIn wsX5_hasComponent wsX3_count := goodIn_r _ [8, 9, 23, 24, 25, 26, 27, 28] (by decide +kernel) (by decide +kernel)
set_option maxRecDepth 20000 in
theorem gX5_hasComponent_X3_count : GoodIn wsX5_hasComponent (wsV RX5 65 RX3 yX3_count wsX3_count) := goodIn_app (goodIn_of _ (by decide +kernel)) ggX5_hasComponent_X3_count
theorem dX5_hasComponent_0 : decode cX5_hasComponent 0 = .ok (.iload_n 1, 1) := by decide +kernel
theorem dX5_hasComponent_1 : decode cX5_hasComponent 1 = .ok (.ifCond .lt 26, 3) := by decide +kernel
theorem dX5_hasComponent_4 : decode cX5_hasComponent 4 = .ok (.iload_n 1, 1) := by decide +kernel
theorem dX5_hasComponent_5 : decode cX5_hasComponent 5 = .ok (.aload_n 0, 1) := by decide +kernel
theorem dX5_hasComponent_6 : decode cX5_hasComponent 6 = .ok (.getfield 16, 3) := by decide +kernel
theorem dX5_hasComponent_9 : decode cX5_hasComponent 9 = .ok (.getfield 61, 3) := by decide +kernel
theorem dX5_hasComponent_12 : decode cX5_hasComponent 12 = .ok (.invokevirtual 65, 3) := by decide +kernel
theorem dX5_hasComponent_15 : decode cX5_hasComponent 15 = .ok (.aload_n 0, 1) := by decide +kernel
theorem dX5_hasComponent_16 : decode cX5_hasComponent 16 = .ok (.getfield 19, 3) := by decide +kernel
theorem dX5_hasComponent_19 : decode cX5_hasComponent 19 = .ok (.iadd, 1) := by decide +kernel
theorem dX5_hasComponent_20 : decode cX5_hasComponent 20 = .ok (.if_icmp .ge 7, 3) := by decide +kernel
theorem dX5_hasComponent_23 : decode cX5_hasComponent 23 = .ok (.iconst 1, 1) := by decide +kernel
theorem dX5_hasComponent_24 : decode cX5_hasComponent 24 = .ok (.goto 4, 3) := by decide +kernel
theorem dX5_hasComponent_27 : decode cX5_hasComponent 27 = .ok (.iconst 0, 1) := by decide +kernel
theorem dX5_hasComponent_28 : decode cX5_hasComponent 28 = .ok (.ireturn, 1) := by decide +kernel
set_option maxRecDepth 20000 in
theorem ggX5_tellCircle_X2_count : GoodIn wsX5_tellCircle wsX2_count := goodIn_r _ [7, 8, 22, 23, 24, 25] (by decide +kernel) (by decide +kernel)
set_option maxRecDepth 20000 in
theorem gX5_tellCircle_X2_count : GoodIn wsX5_tellCircle (wsV RX5 72 RX2 yX2_count wsX2_count) := goodIn_app (goodIn_of _ (by decide +kernel)) ggX5_tellCircle_X2_count
theorem dX5_tellCircle_0 : decode cX5_tellCircle 0 = .ok (.iload_n 2, 1) := by decide +kernel
theorem dX5_tellCircle_1 : decode cX5_tellCircle 1 = .ok (.tableswitch 46 0 3 #[31, 31, 31, 33], 31) := by decide +kernel
theorem dX5_tellCircle_32 : decode cX5_tellCircle 32 = .ok (.iconst 0, 1) := by decide +kernel
theorem dX5_tellCircle_33 : decode cX5_tellCircle 33 = .ok (.ireturn, 1) := by decide +kernel
theorem dX5_tellCircle_34 : decode cX5_tellCircle 34 = .ok (.aload_n 0, 1) := by decide +kernel
theorem dX5_tellCircle_35 : decode cX5_tellCircle 35 = .ok (.getfield 16, 3) := by decide +kernel
theorem dX5_tellCircle_38 : decode cX5_tellCircle 38 = .ok (.getfield 68, 3) := by decide +kernel
theorem dX5_tellCircle_41 : decode cX5_tellCircle 41 = .ok (.invokevirtual 72, 3) := by decide +kernel
theorem dX5_tellCircle_44 : decode cX5_tellCircle 44 = .ok (.iload_n 1, 1) := by decide +kernel
theorem dX5_tellCircle_45 : decode cX5_tellCircle 45 = .ok (.iadd, 1) := by decide +kernel
theorem dX5_tellCircle_46 : decode cX5_tellCircle 46 = .ok (.ireturn, 1) := by decide +kernel
theorem dX5_tellCircle_47 : decode cX5_tellCircle 47 = .ok (.sipush (-1000), 3) := by decide +kernel
theorem dX5_tellCircle_50 : decode cX5_tellCircle 50 = .ok (.ireturn, 1) := by decide +kernel
theorem dX6_init_0 : decode cX6_init 0 = .ok (.aload_n 0, 1) := by decide +kernel
theorem dX6_init_1 : decode cX6_init 1 = .ok (.invokespecial 1, 3) := by decide +kernel
theorem dX6_init_4 : decode cX6_init 4 = .ok (.aload_n 0, 1) := by decide +kernel
theorem dX6_init_5 : decode cX6_init 5 = .ok (.iconst (-1), 1) := by decide +kernel
theorem dX6_init_6 : decode cX6_init 6 = .ok (.putfield 7, 3) := by decide +kernel
theorem dX6_init_9 : decode cX6_init 9 = .ok (.aload_n 0, 1) := by decide +kernel
theorem dX6_init_10 : decode cX6_init 10 = .ok (.bipush 20, 2) := by decide +kernel
theorem dX6_init_12 : decode cX6_init 12 = .ok (.newarray .int, 2) := by decide +kernel
theorem dX6_init_14 : decode cX6_init 14 = .ok (.putfield 13, 3) := by decide +kernel
theorem dX6_init_17 : decode cX6_init 17 = .ok (.aload_n 0, 1) := by decide +kernel
theorem dX6_init_18 : decode cX6_init 18 = .ok (.bipush 80, 2) := by decide +kernel
theorem dX6_init_20 : decode cX6_init 20 = .ok (.newarray .int, 2) := by decide +kernel
theorem dX6_init_22 : decode cX6_init 22 = .ok (.putfield 17, 3) := by decide +kernel
theorem dX6_init_25 : decode cX6_init 25 = .ok (.aload_n 0, 1) := by decide +kernel
theorem dX6_init_26 : decode cX6_init 26 = .ok (.bipush 20, 2) := by decide +kernel
theorem dX6_init_28 : decode cX6_init 28 = .ok (.newarray .int, 2) := by decide +kernel
theorem dX6_init_30 : decode cX6_init 30 = .ok (.putfield 20, 3) := by decide +kernel
theorem dX6_init_33 : decode cX6_init 33 = .ok (.aload_n 0, 1) := by decide +kernel
theorem dX6_init_34 : decode cX6_init 34 = .ok (.bipush 80, 2) := by decide +kernel
theorem dX6_init_36 : decode cX6_init 36 = .ok (.newarray .int, 2) := by decide +kernel
theorem dX6_init_38 : decode cX6_init 38 = .ok (.putfield 23, 3) := by decide +kernel
theorem dX6_init_41 : decode cX6_init 41 = .ok (.aload_n 0, 1) := by decide +kernel
theorem dX6_init_42 : decode cX6_init 42 = .ok (.bipush 20, 2) := by decide +kernel
theorem dX6_init_44 : decode cX6_init 44 = .ok (.newarray .int, 2) := by decide +kernel
theorem dX6_init_46 : decode cX6_init 46 = .ok (.putfield 26, 3) := by decide +kernel
theorem dX6_init_49 : decode cX6_init 49 = .ok (.aload_n 0, 1) := by decide +kernel
theorem dX6_init_50 : decode cX6_init 50 = .ok (.bipush 80, 2) := by decide +kernel
theorem dX6_init_52 : decode cX6_init 52 = .ok (.newarray .int, 2) := by decide +kernel
theorem dX6_init_54 : decode cX6_init 54 = .ok (.putfield 29, 3) := by decide +kernel
theorem dX6_init_57 : decode cX6_init 57 = .ok (.aload_n 0, 1) := by decide +kernel
theorem dX6_init_58 : decode cX6_init 58 = .ok (.bipush 80, 2) := by decide +kernel
theorem dX6_init_60 : decode cX6_init 60 = .ok (.newarray .int, 2) := by decide +kernel
theorem dX6_init_62 : decode cX6_init 62 = .ok (.putfield 32, 3) := by decide +kernel
theorem dX6_init_65 : decode cX6_init 65 = .ok (.aload_n 0, 1) := by decide +kernel
theorem dX6_init_66 : decode cX6_init 66 = .ok (.bipush 80, 2) := by decide +kernel
theorem dX6_init_68 : decode cX6_init 68 = .ok (.newarray .int, 2) := by decide +kernel
theorem dX6_init_70 : decode cX6_init 70 = .ok (.putfield 35, 3) := by decide +kernel
theorem dX6_init_73 : decode cX6_init 73 = .ok (.aload_n 0, 1) := by decide +kernel
theorem dX6_init_74 : decode cX6_init 74 = .ok (.bipush 20, 2) := by decide +kernel
theorem dX6_init_76 : decode cX6_init 76 = .ok (.newarray .boolean, 2) := by decide +kernel
theorem dX6_init_78 : decode cX6_init 78 = .ok (.putfield 38, 3) := by decide +kernel
theorem dX6_init_81 : decode cX6_init 81 = .ok (.aload_n 0, 1) := by decide +kernel
theorem dX6_init_82 : decode cX6_init 82 = .ok (.bipush 20, 2) := by decide +kernel
theorem dX6_init_84 : decode cX6_init 84 = .ok (.newarray .boolean, 2) := by decide +kernel
theorem dX6_init_86 : decode cX6_init 86 = .ok (.putfield 42, 3) := by decide +kernel
theorem dX6_init_89 : decode cX6_init 89 = .ok (.aload_n 0, 1) := by decide +kernel
theorem dX6_init_90 : decode cX6_init 90 = .ok (.bipush 20, 2) := by decide +kernel
theorem dX6_init_92 : decode cX6_init 92 = .ok (.newarray .int, 2) := by decide +kernel
theorem dX6_init_94 : decode cX6_init 94 = .ok (.putfield 45, 3) := by decide +kernel
theorem dX6_init_97 : decode cX6_init 97 = .ok (.aload_n 0, 1) := by decide +kernel
theorem dX6_init_98 : decode cX6_init 98 = .ok (.bipush 80, 2) := by decide +kernel
theorem dX6_init_100 : decode cX6_init 100 = .ok (.newarray .int, 2) := by decide +kernel
theorem dX6_init_102 : decode cX6_init 102 = .ok (.putfield 48, 3) := by decide +kernel
theorem dX6_init_105 : decode cX6_init 105 = .ok (.aload_n 0, 1) := by decide +kernel
theorem dX6_init_106 : decode cX6_init 106 = .ok (.bipush 80, 2) := by decide +kernel
theorem dX6_init_108 : decode cX6_init 108 = .ok (.newarray .int, 2) := by decide +kernel
theorem dX6_init_110 : decode cX6_init 110 = .ok (.putfield 51, 3) := by decide +kernel
theorem dX6_init_113 : decode cX6_init 113 = .ok (.return_, 1) := by decide +kernel
theorem dX6_isOut_0 : decode cX6_isOut 0 = .ok (.iload_n 1, 1) := by decide +kernel
theorem dX6_isOut_1 : decode cX6_isOut 1 = .ok (.iconst 4, 1) := by decide +kernel
theorem dX6_isOut_2 : decode cX6_isOut 2 = .ok (.irem, 1) := by decide +kernel
theorem dX6_isOut_3 : decode cX6_isOut 3 = .ok (.istore_n 2, 1) := by decide +kernel
theorem dX6_isOut_4 : decode cX6_isOut 4 = .ok (.iload_n 2, 1) := by decide +kernel
theorem dX6_isOut_5 : decode cX6_isOut 5 = .ok (.iconst 2, 1) := by decide +kernel
theorem dX6_isOut_6 : decode cX6_isOut 6 = .ok (.if_icmp .eq 23, 3) := by decide +kernel
theorem dX6_isOut_9 : decode cX6_isOut 9 = .ok (.iload_n 2, 1) := by decide +kernel
theorem dX6_isOut_10 : decode cX6_isOut 10 = .ok (.aload_n 0, 1) := by decide +kernel
theorem dX6_isOut_11 : decode cX6_isOut 11 = .ok (.getfield 20, 3) := by decide +kernel
theorem dX6_isOut_14 : decode cX6_isOut 14 = .ok (.iload_n 1, 1) := by decide +kernel
theorem dX6_isOut_15 : decode cX6_isOut 15 = .ok (.iconst 4, 1) := by decide +kernel
theorem dX6_isOut_16 : decode cX6_isOut 16 = .ok (.idiv, 1) := by decide +kernel
theorem dX6_isOut_17 : decode cX6_isOut 17 = .ok (.iaload, 1) := by decide +kernel
theorem dX6_isOut_18 : decode cX6_isOut 18 = .ok (.ifCond .le 7, 3) := by decide +kernel
theorem dX6_isOut_21 : decode cX6_isOut 21 = .ok (.iconst 1, 1) := by decide +kernel
theorem dX6_isOut_22 : decode cX6_isOut 22 = .ok (.goto 4, 3) := by decide +kernel
theorem dX6_isOut_25 : decode cX6_isOut 25 = .ok (.iconst 3, 1) := by decide +kernel
theorem dX6_isOut_26 : decode cX6_isOut 26 = .ok (.if_icmp .ne 7, 3) := by decide +kernel
theorem dX6_isOut_29 : decode cX6_isOut 29 = .ok (.iconst 1, 1) := by decide +kernel
theorem dX6_isOut_30 : decode cX6_isOut 30 = .ok (.goto 4, 3) := by decide +kernel
theorem dX6_isOut_33 : decode cX6_isOut 33 = .ok (.iconst 0, 1) := by decide +kernel
theorem dX6_isOut_34 : decode cX6_isOut 34 = .ok (.ireturn, 1) := by decide +kernel
theorem dX6_isUpper_0 : decode cX6_isUpper 0 = .ok (.iload_n 0, 1) := by decide +kernel
theorem dX6_isUpper_1 : decode cX6_isUpper 1 = .ok (.iconst 2, 1) := by decide +kernel
theorem dX6_isUpper_2 : decode cX6_isUpper 2 = .ok (.irem, 1) := by decide +kernel
theorem dX6_isUpper_3 : decode cX6_isUpper 3 = .ok (.iconst 1, 1) := by decide +kernel
theorem dX6_isUpper_4 : decode cX6_isUpper 4 = .ok (.if_icmp .ne 7, 3) := by decide +kernel
theorem dX6_isUpper_7 : decode cX6_isUpper 7 = .ok (.iconst 1, 1) := by decide +kernel
theorem dX6_isUpper_8 : decode cX6_isUpper 8 = .ok (.goto 4, 3) := by decide +kernel
theorem dX6_isUpper_11 : decode cX6_isUpper 11 = .ok (.iconst 0, 1) := by decide +kernel
theorem dX6_isUpper_12 : decode cX6_isUpper 12 = .ok (.ireturn, 1) := by decide +kernel
set_option maxRecDepth 20000 in
theorem ggX6_placeOf_X6_isOut : GoodIn wsX6_placeOf wsX6_isOut := goodIn_r _ [7, 8, 9, 10, 11, 12, 13, 14, 15, 16, 17, 18, 19, 20, 21, 22, 23, 24, 25, 26, 27, 28, 29, 30, 31] (by decide +kernel) (by decide +kernel)
set_option maxRecDepth 20000 in
theorem gX6_placeOf_X6_isOut : GoodIn wsX6_placeOf (wsV RX6 60 RX6 yX6_isOut wsX6_isOut) := goodIn_app (goodIn_of _ (by decide +kernel)) ggX6_placeOf_X6_isOut
theorem dX6_placeOf_0 : decode cX6_placeOf 0 = .ok (.iconst (-1), 1) := by decide +kernel
theorem dX6_placeOf_1 : decode cX6_placeOf 1 = .ok (.istore_n 3, 1) := by decide +kernel
theorem dX6_placeOf_2 : decode cX6_placeOf 2 = .ok (.iconst 0, 1) := by decide +kernel
theorem dX6_placeOf_3 : decode cX6_placeOf 3 = .ok (.istore 4, 2) := by decide +kernel
theorem dX6_placeOf_5 : decode cX6_placeOf 5 = .ok (.iload 4, 2) := by decide +kernel
theorem dX6_placeOf_7 : decode cX6_placeOf 7 = .ok (.iconst 4, 1) := by decide +kernel
theorem dX6_placeOf_8 : decode cX6_placeOf 8 = .ok (.aload_n 0, 1) := by decide +kernel
theorem dX6_placeOf_9 : decode cX6_placeOf 9 = .ok (.getfield 57, 3) := by decide +kernel
theorem dX6_placeOf_12 : decode cX6_placeOf 12 = .ok (.imul, 1) := by decide +kernel
theorem dX6_placeOf_13 : decode cX6_placeOf 13 = .ok (.if_icmp .ge 37, 3) := by decide +kernel
theorem dX6_placeOf_16 : decode cX6_placeOf 16 = .ok (.aload_n 0, 1) := by decide +kernel
theorem dX6_placeOf_17 : decode cX6_placeOf 17 = .ok (.getfield 23, 3) := by decide +kernel
theorem dX6_placeOf_20 : decode cX6_placeOf 20 = .ok (.iload 4, 2) := by decide +kernel
theorem dX6_placeOf_22 : decode cX6_placeOf 22 = .ok (.iaload, 1) := by decide +kernel
theorem dX6_placeOf_23 : decode cX6_placeOf 23 = .ok (.iload_n 1, 1) := by decide +kernel
theorem dX6_placeOf_24 : decode cX6_placeOf 24 = .ok (.if_icmp .ne 18, 3) := by decide +kernel
theorem dX6_placeOf_27 : decode cX6_placeOf 27 = .ok (.aload_n 0, 1) := by decide +kernel
theorem dX6_placeOf_28 : decode cX6_placeOf 28 = .ok (.iload 4, 2) := by decide +kernel
theorem dX6_placeOf_30 : decode cX6_placeOf 30 = .ok (.invokevirtual 60, 3) := by decide +kernel
theorem dX6_placeOf_33 : decode cX6_placeOf 33 = .ok (.iload_n 2, 1) := by decide +kernel
theorem dX6_placeOf_34 : decode cX6_placeOf 34 = .ok (.if_icmp .ne 8, 3) := by decide +kernel
theorem dX6_placeOf_37 : decode cX6_placeOf 37 = .ok (.iload 4, 2) := by decide +kernel
theorem dX6_placeOf_39 : decode cX6_placeOf 39 = .ok (.goto 4, 3) := by decide +kernel
theorem dX6_placeOf_42 : decode cX6_placeOf 42 = .ok (.iload_n 3, 1) := by decide +kernel
theorem dX6_placeOf_43 : decode cX6_placeOf 43 = .ok (.istore_n 3, 1) := by decide +kernel
theorem dX6_placeOf_44 : decode cX6_placeOf 44 = .ok (.iinc 4 1, 3) := by decide +kernel
theorem dX6_placeOf_47 : decode cX6_placeOf 47 = .ok (.goto (-42), 3) := by decide +kernel
theorem dX6_placeOf_50 : decode cX6_placeOf 50 = .ok (.iload_n 3, 1) := by decide +kernel
theorem dX6_placeOf_51 : decode cX6_placeOf 51 = .ok (.ireturn, 1) := by decide +kernel
theorem dX6_across_0 : decode cX6_across 0 = .ok (.iload_n 0, 1) := by decide +kernel
theorem dX6_across_1 : decode cX6_across 1 = .ok (.iconst 4, 1) := by decide +kernel
theorem dX6_across_2 : decode cX6_across 2 = .ok (.idiv, 1) := by decide +kernel
theorem dX6_across_3 : decode cX6_across 3 = .ok (.iconst 4, 1) := by decide +kernel
theorem dX6_across_4 : decode cX6_across 4 = .ok (.imul, 1) := by decide +kernel
theorem dX6_across_5 : decode cX6_across 5 = .ok (.iload_n 0, 1) := by decide +kernel
theorem dX6_across_6 : decode cX6_across 6 = .ok (.iconst 2, 1) := by decide +kernel
theorem dX6_across_7 : decode cX6_across 7 = .ok (.iadd, 1) := by decide +kernel
theorem dX6_across_8 : decode cX6_across 8 = .ok (.iconst 4, 1) := by decide +kernel
theorem dX6_across_9 : decode cX6_across 9 = .ok (.irem, 1) := by decide +kernel
theorem dX6_across_10 : decode cX6_across 10 = .ok (.iadd, 1) := by decide +kernel
theorem dX6_across_11 : decode cX6_across 11 = .ok (.ireturn, 1) := by decide +kernel
set_option maxRecDepth 20000 in
theorem ggX6_next_X6_placeOf : GoodIn wsX6_next wsX6_placeOf := goodIn_r _ [6, 7, 1, 8, 9, 10, 5, 11, 12, 16, 17, 18, 19, 20, 21, 22, 23, 24, 25, 26, 27, 28, 29, 30, 31, 32, 33, 34, 35, 36, 37, 38] (by decide +kernel) (by decide +kernel)
set_option maxRecDepth 20000 in
theorem gX6_next_X6_placeOf : GoodIn wsX6_next (wsV RX6 64 RX6 yX6_placeOf wsX6_placeOf) := goodIn_app (goodIn_of _ (by decide +kernel)) ggX6_next_X6_placeOf
set_option maxRecDepth 20000 in
theorem ggX6_next_X6_across : GoodIn wsX6_next wsX6_across := goodIn_r _ [15] (by decide +kernel) (by decide +kernel)
set_option maxRecDepth 20000 in
theorem gX6_next_X6_across : GoodIn wsX6_next (va_wsS RX6 68 yX6_across wsX6_across) := goodIn_app (goodIn_of _ (by decide +kernel)) ggX6_next_X6_across
theorem dX6_next_0 : decode cX6_next 0 = .ok (.aload_n 0, 1) := by decide +kernel
theorem dX6_next_1 : decode cX6_next 1 = .ok (.getfield 23, 3) := by decide +kernel
theorem dX6_next_4 : decode cX6_next 4 = .ok (.aload_n 0, 1) := by decide +kernel
theorem dX6_next_5 : decode cX6_next 5 = .ok (.iload_n 1, 1) := by decide +kernel
theorem dX6_next_6 : decode cX6_next 6 = .ok (.iconst 0, 1) := by decide +kernel
theorem dX6_next_7 : decode cX6_next 7 = .ok (.invokevirtual 64, 3) := by decide +kernel
theorem dX6_next_10 : decode cX6_next 10 = .ok (.invokestatic 68, 3) := by decide +kernel
theorem dX6_next_13 : decode cX6_next 13 = .ok (.iaload, 1) := by decide +kernel
theorem dX6_next_14 : decode cX6_next 14 = .ok (.ireturn, 1) := by decide +kernel
theorem dX6_upperIn_0 : decode cX6_upperIn 0 = .ok (.aload_n 0, 1) := by decide +kernel
theorem dX6_upperIn_1 : decode cX6_upperIn 1 = .ok (.getfield 20, 3) := by decide +kernel
theorem dX6_upperIn_4 : decode cX6_upperIn 4 = .ok (.iload_n 1, 1) := by decide +kernel
theorem dX6_upperIn_5 : decode cX6_upperIn 5 = .ok (.iaload, 1) := by decide +kernel
theorem dX6_upperIn_6 : decode cX6_upperIn 6 = .ok (.ifCond .le 7, 3) := by decide +kernel
theorem dX6_upperIn_9 : decode cX6_upperIn 9 = .ok (.iconst 3, 1) := by decide +kernel
theorem dX6_upperIn_10 : decode cX6_upperIn 10 = .ok (.goto 4, 3) := by decide +kernel
theorem dX6_upperIn_13 : decode cX6_upperIn 13 = .ok (.iconst 1, 1) := by decide +kernel
theorem dX6_upperIn_14 : decode cX6_upperIn 14 = .ok (.ireturn, 1) := by decide +kernel
theorem dX6_sort_0 : decode cX6_sort 0 = .ok (.aload_n 0, 1) := by decide +kernel
theorem dX6_sort_1 : decode cX6_sort 1 = .ok (.iconst 0, 1) := by decide +kernel
theorem dX6_sort_2 : decode cX6_sort 2 = .ok (.putfield 72, 3) := by decide +kernel
theorem dX6_sort_5 : decode cX6_sort 5 = .ok (.iconst 0, 1) := by decide +kernel
theorem dX6_sort_6 : decode cX6_sort 6 = .ok (.istore_n 1, 1) := by decide +kernel
theorem dX6_sort_7 : decode cX6_sort 7 = .ok (.iload_n 1, 1) := by decide +kernel
theorem dX6_sort_8 : decode cX6_sort 8 = .ok (.iconst 4, 1) := by decide +kernel
theorem dX6_sort_9 : decode cX6_sort 9 = .ok (.aload_n 0, 1) := by decide +kernel
theorem dX6_sort_10 : decode cX6_sort 10 = .ok (.getfield 57, 3) := by decide +kernel
theorem dX6_sort_13 : decode cX6_sort 13 = .ok (.imul, 1) := by decide +kernel
theorem dX6_sort_14 : decode cX6_sort 14 = .ok (.if_icmp .ge 124, 3) := by decide +kernel
theorem dX6_sort_17 : decode cX6_sort 17 = .ok (.iconst 0, 1) := by decide +kernel
theorem dX6_sort_18 : decode cX6_sort 18 = .ok (.istore_n 2, 1) := by decide +kernel
theorem dX6_sort_19 : decode cX6_sort 19 = .ok (.iconst 0, 1) := by decide +kernel
theorem dX6_sort_20 : decode cX6_sort 20 = .ok (.istore_n 3, 1) := by decide +kernel
theorem dX6_sort_21 : decode cX6_sort 21 = .ok (.iload_n 3, 1) := by decide +kernel
theorem dX6_sort_22 : decode cX6_sort 22 = .ok (.aload_n 0, 1) := by decide +kernel
theorem dX6_sort_23 : decode cX6_sort 23 = .ok (.getfield 72, 3) := by decide +kernel
theorem dX6_sort_26 : decode cX6_sort 26 = .ok (.if_icmp .ge 34, 3) := by decide +kernel
theorem dX6_sort_29 : decode cX6_sort 29 = .ok (.iload_n 2, 1) := by decide +kernel
theorem dX6_sort_30 : decode cX6_sort 30 = .ok (.ifCond .ne 18, 3) := by decide +kernel
theorem dX6_sort_33 : decode cX6_sort 33 = .ok (.aload_n 0, 1) := by decide +kernel
theorem dX6_sort_34 : decode cX6_sort 34 = .ok (.getfield 32, 3) := by decide +kernel
theorem dX6_sort_37 : decode cX6_sort 37 = .ok (.iload_n 3, 1) := by decide +kernel
theorem dX6_sort_38 : decode cX6_sort 38 = .ok (.iaload, 1) := by decide +kernel
theorem dX6_sort_39 : decode cX6_sort 39 = .ok (.aload_n 0, 1) := by decide +kernel
theorem dX6_sort_40 : decode cX6_sort 40 = .ok (.getfield 23, 3) := by decide +kernel
theorem dX6_sort_43 : decode cX6_sort 43 = .ok (.iload_n 1, 1) := by decide +kernel
theorem dX6_sort_44 : decode cX6_sort 44 = .ok (.iaload, 1) := by decide +kernel
theorem dX6_sort_45 : decode cX6_sort 45 = .ok (.if_icmp .ne 7, 3) := by decide +kernel
theorem dX6_sort_48 : decode cX6_sort 48 = .ok (.iconst 1, 1) := by decide +kernel
theorem dX6_sort_49 : decode cX6_sort 49 = .ok (.goto 4, 3) := by decide +kernel
theorem dX6_sort_52 : decode cX6_sort 52 = .ok (.iconst 0, 1) := by decide +kernel
theorem dX6_sort_53 : decode cX6_sort 53 = .ok (.istore_n 2, 1) := by decide +kernel
theorem dX6_sort_54 : decode cX6_sort 54 = .ok (.iinc 3 1, 3) := by decide +kernel
theorem dX6_sort_57 : decode cX6_sort 57 = .ok (.goto (-36), 3) := by decide +kernel
theorem dX6_sort_60 : decode cX6_sort 60 = .ok (.iload_n 2, 1) := by decide +kernel
theorem dX6_sort_61 : decode cX6_sort 61 = .ok (.ifCond .ne 71, 3) := by decide +kernel
theorem dX6_sort_64 : decode cX6_sort 64 = .ok (.aload_n 0, 1) := by decide +kernel
theorem dX6_sort_65 : decode cX6_sort 65 = .ok (.getfield 72, 3) := by decide +kernel
theorem dX6_sort_68 : decode cX6_sort 68 = .ok (.istore_n 3, 1) := by decide +kernel
theorem dX6_sort_69 : decode cX6_sort 69 = .ok (.iload_n 3, 1) := by decide +kernel
theorem dX6_sort_70 : decode cX6_sort 70 = .ok (.ifCond .le 40, 3) := by decide +kernel
theorem dX6_sort_73 : decode cX6_sort 73 = .ok (.aload_n 0, 1) := by decide +kernel
theorem dX6_sort_74 : decode cX6_sort 74 = .ok (.getfield 32, 3) := by decide +kernel
theorem dX6_sort_77 : decode cX6_sort 77 = .ok (.iload_n 3, 1) := by decide +kernel
theorem dX6_sort_78 : decode cX6_sort 78 = .ok (.iconst 1, 1) := by decide +kernel
theorem dX6_sort_79 : decode cX6_sort 79 = .ok (.isub, 1) := by decide +kernel
theorem dX6_sort_80 : decode cX6_sort 80 = .ok (.iaload, 1) := by decide +kernel
theorem dX6_sort_81 : decode cX6_sort 81 = .ok (.aload_n 0, 1) := by decide +kernel
theorem dX6_sort_82 : decode cX6_sort 82 = .ok (.getfield 23, 3) := by decide +kernel
theorem dX6_sort_85 : decode cX6_sort 85 = .ok (.iload_n 1, 1) := by decide +kernel
theorem dX6_sort_86 : decode cX6_sort 86 = .ok (.iaload, 1) := by decide +kernel
theorem dX6_sort_87 : decode cX6_sort 87 = .ok (.if_icmp .le 23, 3) := by decide +kernel
theorem dX6_sort_90 : decode cX6_sort 90 = .ok (.aload_n 0, 1) := by decide +kernel
theorem dX6_sort_91 : decode cX6_sort 91 = .ok (.getfield 32, 3) := by decide +kernel
theorem dX6_sort_94 : decode cX6_sort 94 = .ok (.iload_n 3, 1) := by decide +kernel
theorem dX6_sort_95 : decode cX6_sort 95 = .ok (.aload_n 0, 1) := by decide +kernel
theorem dX6_sort_96 : decode cX6_sort 96 = .ok (.getfield 32, 3) := by decide +kernel
theorem dX6_sort_99 : decode cX6_sort 99 = .ok (.iload_n 3, 1) := by decide +kernel
theorem dX6_sort_100 : decode cX6_sort 100 = .ok (.iconst 1, 1) := by decide +kernel
theorem dX6_sort_101 : decode cX6_sort 101 = .ok (.isub, 1) := by decide +kernel
theorem dX6_sort_102 : decode cX6_sort 102 = .ok (.iaload, 1) := by decide +kernel
theorem dX6_sort_103 : decode cX6_sort 103 = .ok (.iastore, 1) := by decide +kernel
theorem dX6_sort_104 : decode cX6_sort 104 = .ok (.iinc 3 (-1), 3) := by decide +kernel
theorem dX6_sort_107 : decode cX6_sort 107 = .ok (.goto (-38), 3) := by decide +kernel
theorem dX6_sort_110 : decode cX6_sort 110 = .ok (.aload_n 0, 1) := by decide +kernel
theorem dX6_sort_111 : decode cX6_sort 111 = .ok (.getfield 32, 3) := by decide +kernel
theorem dX6_sort_114 : decode cX6_sort 114 = .ok (.iload_n 3, 1) := by decide +kernel
theorem dX6_sort_115 : decode cX6_sort 115 = .ok (.aload_n 0, 1) := by decide +kernel
theorem dX6_sort_116 : decode cX6_sort 116 = .ok (.getfield 23, 3) := by decide +kernel
theorem dX6_sort_119 : decode cX6_sort 119 = .ok (.iload_n 1, 1) := by decide +kernel
theorem dX6_sort_120 : decode cX6_sort 120 = .ok (.iaload, 1) := by decide +kernel
theorem dX6_sort_121 : decode cX6_sort 121 = .ok (.iastore, 1) := by decide +kernel
theorem dX6_sort_122 : decode cX6_sort 122 = .ok (.aload_n 0, 1) := by decide +kernel
theorem dX6_sort_123 : decode cX6_sort 123 = .ok (.dup, 1) := by decide +kernel
theorem dX6_sort_124 : decode cX6_sort 124 = .ok (.getfield 72, 3) := by decide +kernel
theorem dX6_sort_127 : decode cX6_sort 127 = .ok (.iconst 1, 1) := by decide +kernel
theorem dX6_sort_128 : decode cX6_sort 128 = .ok (.iadd, 1) := by decide +kernel
theorem dX6_sort_129 : decode cX6_sort 129 = .ok (.putfield 72, 3) := by decide +kernel
theorem dX6_sort_132 : decode cX6_sort 132 = .ok (.iinc 1 1, 3) := by decide +kernel
theorem dX6_sort_135 : decode cX6_sort 135 = .ok (.goto (-128), 3) := by decide +kernel
theorem dX6_sort_138 : decode cX6_sort 138 = .ok (.return_, 1) := by decide +kernel
set_option maxRecDepth 20000 in
theorem ggX6_components_X6_sort : GoodIn wsX6_components wsX6_sort := goodIn_r _ [9, 3, 10, 4, 11, 28, 29, 30, 31, 32, 33, 34, 35, 36, 37, 38, 39, 40, 41, 42, 43, 44, 45, 46, 47, 48, 49, 50] (by decide +kernel) (by decide +kernel)
set_option maxRecDepth 20000 in
theorem gX6_components_X6_sort : GoodIn wsX6_components (wsV RX6 78 RX6 yX6_sort wsX6_sort) := goodIn_app (goodIn_of _ (by decide +kernel)) ggX6_components_X6_sort
set_option maxRecDepth 20000 in
theorem ggX6_components_X6_placeOf : GoodIn wsX6_components wsX6_placeOf := goodIn_r _ [15, 10, 11, 16, 17, 18, 8, 19, 20, 28, 29, 30, 31, 32, 33, 34, 35, 36, 37, 38, 39, 40, 41, 42, 43, 44, 45, 46, 47, 48, 49, 50] (by decide +kernel) (by decide +kernel)
set_option maxRecDepth 20000 in
theorem gX6_components_X6_placeOf : GoodIn wsX6_components (wsV RX6 64 RX6 yX6_placeOf wsX6_placeOf) := goodIn_app (goodIn_of _ (by decide +kernel)) ggX6_components_X6_placeOf
set_option maxRecDepth 20000 in
theorem ggX6_components_X6_next : GoodIn wsX6_components wsX6_next := goodIn_r _ [24, 11, 12, 13, 14, 8, 15, 10, 16, 17, 18, 19, 20, 25, 26, 27, 28, 29, 30, 31, 32, 33, 34, 35, 36, 37, 38, 39, 40, 41, 42, 43, 44, 45, 46, 47, 48, 49, 50] (by decide +kernel) (by decide +kernel)
set_option maxRecDepth 20000 in
theorem gX6_components_X6_next : GoodIn wsX6_components (wsV RX6 81 RX6 yX6_next wsX6_next) := goodIn_app (goodIn_of _ (by decide +kernel)) ggX6_components_X6_next
theorem dX6_components_0 : decode cX6_components 0 = .ok (.iconst 0, 1) := by decide +kernel
theorem dX6_components_1 : decode cX6_components 1 = .ok (.istore_n 1, 1) := by decide +kernel
theorem dX6_components_2 : decode cX6_components 2 = .ok (.iload_n 1, 1) := by decide +kernel
theorem dX6_components_3 : decode cX6_components 3 = .ok (.bipush 80, 2) := by decide +kernel
theorem dX6_components_5 : decode cX6_components 5 = .ok (.if_icmp .ge 16, 3) := by decide +kernel
theorem dX6_components_8 : decode cX6_components 8 = .ok (.aload_n 0, 1) := by decide +kernel
theorem dX6_components_9 : decode cX6_components 9 = .ok (.getfield 48, 3) := by decide +kernel
theorem dX6_components_12 : decode cX6_components 12 = .ok (.iload_n 1, 1) := by decide +kernel
theorem dX6_components_13 : decode cX6_components 13 = .ok (.iconst (-1), 1) := by decide +kernel
theorem dX6_components_14 : decode cX6_components 14 = .ok (.iastore, 1) := by decide +kernel
theorem dX6_components_15 : decode cX6_components 15 = .ok (.iinc 1 1, 3) := by decide +kernel
theorem dX6_components_18 : decode cX6_components 18 = .ok (.goto (-16), 3) := by decide +kernel
theorem dX6_components_21 : decode cX6_components 21 = .ok (.aload_n 0, 1) := by decide +kernel
theorem dX6_components_22 : decode cX6_components 22 = .ok (.iconst 0, 1) := by decide +kernel
theorem dX6_components_23 : decode cX6_components 23 = .ok (.putfield 75, 3) := by decide +kernel
theorem dX6_components_26 : decode cX6_components 26 = .ok (.aload_n 0, 1) := by decide +kernel
theorem dX6_components_27 : decode cX6_components 27 = .ok (.invokevirtual 78, 3) := by decide +kernel
theorem dX6_components_30 : decode cX6_components 30 = .ok (.iconst 0, 1) := by decide +kernel
theorem dX6_components_31 : decode cX6_components 31 = .ok (.istore_n 1, 1) := by decide +kernel
theorem dX6_components_32 : decode cX6_components 32 = .ok (.iload_n 1, 1) := by decide +kernel
theorem dX6_components_33 : decode cX6_components 33 = .ok (.aload_n 0, 1) := by decide +kernel
theorem dX6_components_34 : decode cX6_components 34 = .ok (.getfield 72, 3) := by decide +kernel
theorem dX6_components_37 : decode cX6_components 37 = .ok (.if_icmp .ge 111, 3) := by decide +kernel
theorem dX6_components_40 : decode cX6_components 40 = .ok (.aload_n 0, 1) := by decide +kernel
theorem dX6_components_41 : decode cX6_components 41 = .ok (.getfield 32, 3) := by decide +kernel
theorem dX6_components_44 : decode cX6_components 44 = .ok (.iload_n 1, 1) := by decide +kernel
theorem dX6_components_45 : decode cX6_components 45 = .ok (.iaload, 1) := by decide +kernel
theorem dX6_components_46 : decode cX6_components 46 = .ok (.istore_n 2, 1) := by decide +kernel
theorem dX6_components_47 : decode cX6_components 47 = .ok (.aload_n 0, 1) := by decide +kernel
theorem dX6_components_48 : decode cX6_components 48 = .ok (.getfield 48, 3) := by decide +kernel
theorem dX6_components_51 : decode cX6_components 51 = .ok (.aload_n 0, 1) := by decide +kernel
theorem dX6_components_52 : decode cX6_components 52 = .ok (.iload_n 2, 1) := by decide +kernel
theorem dX6_components_53 : decode cX6_components 53 = .ok (.iconst 1, 1) := by decide +kernel
theorem dX6_components_54 : decode cX6_components 54 = .ok (.invokevirtual 64, 3) := by decide +kernel
theorem dX6_components_57 : decode cX6_components 57 = .ok (.iaload, 1) := by decide +kernel
theorem dX6_components_58 : decode cX6_components 58 = .ok (.ifCond .ge 7, 3) := by decide +kernel
theorem dX6_components_61 : decode cX6_components 61 = .ok (.iconst 1, 1) := by decide +kernel
theorem dX6_components_62 : decode cX6_components 62 = .ok (.goto 4, 3) := by decide +kernel
theorem dX6_components_65 : decode cX6_components 65 = .ok (.iconst 0, 1) := by decide +kernel
theorem dX6_components_66 : decode cX6_components 66 = .ok (.istore_n 3, 1) := by decide +kernel
theorem dX6_components_67 : decode cX6_components 67 = .ok (.iload_n 3, 1) := by decide +kernel
theorem dX6_components_68 : decode cX6_components 68 = .ok (.ifCond .eq 56, 3) := by decide +kernel
theorem dX6_components_71 : decode cX6_components 71 = .ok (.aload_n 0, 1) := by decide +kernel
theorem dX6_components_72 : decode cX6_components 72 = .ok (.getfield 48, 3) := by decide +kernel
theorem dX6_components_75 : decode cX6_components 75 = .ok (.aload_n 0, 1) := by decide +kernel
theorem dX6_components_76 : decode cX6_components 76 = .ok (.iload_n 2, 1) := by decide +kernel
theorem dX6_components_77 : decode cX6_components 77 = .ok (.iconst 1, 1) := by decide +kernel
theorem dX6_components_78 : decode cX6_components 78 = .ok (.invokevirtual 64, 3) := by decide +kernel
theorem dX6_components_81 : decode cX6_components 81 = .ok (.iaload, 1) := by decide +kernel
theorem dX6_components_82 : decode cX6_components 82 = .ok (.ifCond .ge 42, 3) := by decide +kernel
theorem dX6_components_85 : decode cX6_components 85 = .ok (.aload_n 0, 1) := by decide +kernel
theorem dX6_components_86 : decode cX6_components 86 = .ok (.getfield 48, 3) := by decide +kernel
theorem dX6_components_89 : decode cX6_components 89 = .ok (.aload_n 0, 1) := by decide +kernel
theorem dX6_components_90 : decode cX6_components 90 = .ok (.iload_n 2, 1) := by decide +kernel
theorem dX6_components_91 : decode cX6_components 91 = .ok (.iconst 1, 1) := by decide +kernel
theorem dX6_components_92 : decode cX6_components 92 = .ok (.invokevirtual 64, 3) := by decide +kernel
theorem dX6_components_95 : decode cX6_components 95 = .ok (.aload_n 0, 1) := by decide +kernel
theorem dX6_components_96 : decode cX6_components 96 = .ok (.getfield 75, 3) := by decide +kernel
theorem dX6_components_99 : decode cX6_components 99 = .ok (.iastore, 1) := by decide +kernel
theorem dX6_components_100 : decode cX6_components 100 = .ok (.aload_n 0, 1) := by decide +kernel
theorem dX6_components_101 : decode cX6_components 101 = .ok (.getfield 48, 3) := by decide +kernel
theorem dX6_components_104 : decode cX6_components 104 = .ok (.aload_n 0, 1) := by decide +kernel
theorem dX6_components_105 : decode cX6_components 105 = .ok (.iload_n 2, 1) := by decide +kernel
theorem dX6_components_106 : decode cX6_components 106 = .ok (.iconst 0, 1) := by decide +kernel
theorem dX6_components_107 : decode cX6_components 107 = .ok (.invokevirtual 64, 3) := by decide +kernel
theorem dX6_components_110 : decode cX6_components 110 = .ok (.aload_n 0, 1) := by decide +kernel
theorem dX6_components_111 : decode cX6_components 111 = .ok (.getfield 75, 3) := by decide +kernel
theorem dX6_components_114 : decode cX6_components 114 = .ok (.iastore, 1) := by decide +kernel
theorem dX6_components_115 : decode cX6_components 115 = .ok (.aload_n 0, 1) := by decide +kernel
theorem dX6_components_116 : decode cX6_components 116 = .ok (.iload_n 2, 1) := by decide +kernel
theorem dX6_components_117 : decode cX6_components 117 = .ok (.invokevirtual 81, 3) := by decide +kernel
theorem dX6_components_120 : decode cX6_components 120 = .ok (.istore_n 2, 1) := by decide +kernel
theorem dX6_components_121 : decode cX6_components 121 = .ok (.goto (-54), 3) := by decide +kernel
theorem dX6_components_124 : decode cX6_components 124 = .ok (.aload_n 0, 1) := by decide +kernel
theorem dX6_components_125 : decode cX6_components 125 = .ok (.dup, 1) := by decide +kernel
theorem dX6_components_126 : decode cX6_components 126 = .ok (.getfield 75, 3) := by decide +kernel
theorem dX6_components_129 : decode cX6_components 129 = .ok (.iload_n 3, 1) := by decide +kernel
theorem dX6_components_130 : decode cX6_components 130 = .ok (.ifCond .eq 7, 3) := by decide +kernel
theorem dX6_components_133 : decode cX6_components 133 = .ok (.iconst 1, 1) := by decide +kernel
theorem dX6_components_134 : decode cX6_components 134 = .ok (.goto 4, 3) := by decide +kernel
theorem dX6_components_137 : decode cX6_components 137 = .ok (.iconst 0, 1) := by decide +kernel
theorem dX6_components_138 : decode cX6_components 138 = .ok (.iadd, 1) := by decide +kernel
theorem dX6_components_139 : decode cX6_components 139 = .ok (.putfield 75, 3) := by decide +kernel
theorem dX6_components_142 : decode cX6_components 142 = .ok (.iinc 1 1, 3) := by decide +kernel
theorem dX6_components_145 : decode cX6_components 145 = .ok (.goto (-113), 3) := by decide +kernel
theorem dX6_components_148 : decode cX6_components 148 = .ok (.return_, 1) := by decide +kernel
set_option maxRecDepth 20000 in
theorem ggX6_componentOf_X6_components : GoodIn wsX6_componentOf wsX6_components := goodIn_r _ [6, 1, 7, 8, 9, 10, 11, 12, 5, 13, 14, 15, 16, 17, 18, 19, 20, 21, 22, 23, 24, 25, 26, 27, 28, 29, 30, 31, 32, 33, 34, 35, 36, 37, 38, 39, 40, 41, 42, 43, 44, 45, 46, 47, 48, 49, 50, 51, 52, 53, 54] (by decide +kernel) (by decide +kernel)
set_option maxRecDepth 20000 in
theorem gX6_componentOf_X6_components : GoodIn wsX6_componentOf (wsV RX6 84 RX6 yX6_components wsX6_components) := goodIn_app (goodIn_of _ (by decide +kernel)) ggX6_componentOf_X6_components
set_option maxRecDepth 20000 in
theorem ggX6_componentOf_X6_placeOf : GoodIn wsX6_componentOf wsX6_placeOf := goodIn_r _ [19, 14, 15, 20, 21, 22, 5, 23, 24, 32, 33, 34, 35, 36, 37, 38, 39, 40, 41, 42, 43, 44, 45, 46, 47, 48, 49, 50, 51, 52, 53, 54] (by decide +kernel) (by decide +kernel)
set_option maxRecDepth 20000 in
theorem gX6_componentOf_X6_placeOf : GoodIn wsX6_componentOf (wsV RX6 64 RX6 yX6_placeOf wsX6_placeOf) := goodIn_app (goodIn_of _ (by decide +kernel)) ggX6_componentOf_X6_placeOf
theorem dX6_componentOf_0 : decode cX6_componentOf 0 = .ok (.aload_n 0, 1) := by decide +kernel
theorem dX6_componentOf_1 : decode cX6_componentOf 1 = .ok (.invokevirtual 84, 3) := by decide +kernel
theorem dX6_componentOf_4 : decode cX6_componentOf 4 = .ok (.aload_n 0, 1) := by decide +kernel
theorem dX6_componentOf_5 : decode cX6_componentOf 5 = .ok (.getfield 48, 3) := by decide +kernel
theorem dX6_componentOf_8 : decode cX6_componentOf 8 = .ok (.aload_n 0, 1) := by decide +kernel
theorem dX6_componentOf_9 : decode cX6_componentOf 9 = .ok (.iload_n 1, 1) := by decide +kernel
theorem dX6_componentOf_10 : decode cX6_componentOf 10 = .ok (.iconst 1, 1) := by decide +kernel
theorem dX6_componentOf_11 : decode cX6_componentOf 11 = .ok (.invokevirtual 64, 3) := by decide +kernel
theorem dX6_componentOf_14 : decode cX6_componentOf 14 = .ok (.iaload, 1) := by decide +kernel
theorem dX6_componentOf_15 : decode cX6_componentOf 15 = .ok (.ireturn, 1) := by decide +kernel
set_option maxRecDepth 20000 in
theorem ggX6_beginning_X6_components : GoodIn wsX6_beginning wsX6_components := goodIn_r _ [8, 2, 9, 1, 3, 10, 11, 12, 7, 13, 14, 15, 16, 17, 18, 19, 20, 21, 22, 23, 24, 25, 26, 27, 28, 29, 30, 31, 32, 33, 34, 35, 36, 37, 38, 39, 40, 41, 42, 43, 44, 45, 46, 47, 48, 49, 50, 51, 52, 53, 54] (by decide +kernel) (by decide +kernel)
set_option maxRecDepth 20000 in
theorem gX6_beginning_X6_components : GoodIn wsX6_beginning (wsV RX6 84 RX6 yX6_components wsX6_components) := goodIn_app (goodIn_of _ (by decide +kernel)) ggX6_beginning_X6_components
set_option maxRecDepth 20000 in
theorem ggX6_beginning_X6_placeOf : GoodIn wsX6_beginning wsX6_placeOf := goodIn_r _ [19, 14, 15, 20, 21, 22, 7, 23, 24, 32, 33, 34, 35, 36, 37, 38, 39, 40, 41, 42, 43, 44, 45, 46, 47, 48, 49, 50, 51, 52, 53, 54] (by decide +kernel) (by decide +kernel)
set_option maxRecDepth 20000 in
theorem gX6_beginning_X6_placeOf : GoodIn wsX6_beginning (wsV RX6 64 RX6 yX6_placeOf wsX6_placeOf) := goodIn_app (goodIn_of _ (by decide +kernel)) ggX6_beginning_X6_placeOf
theorem dX6_beginning_0 : decode cX6_beginning 0 = .ok (.iconst 0, 1) := by decide +kernel
theorem dX6_beginning_1 : decode cX6_beginning 1 = .ok (.istore_n 2, 1) := by decide +kernel
theorem dX6_beginning_2 : decode cX6_beginning 2 = .ok (.aload_n 0, 1) := by decide +kernel
theorem dX6_beginning_3 : decode cX6_beginning 3 = .ok (.invokevirtual 84, 3) := by decide +kernel
theorem dX6_beginning_6 : decode cX6_beginning 6 = .ok (.aload_n 0, 1) := by decide +kernel
theorem dX6_beginning_7 : decode cX6_beginning 7 = .ok (.getfield 72, 3) := by decide +kernel
theorem dX6_beginning_10 : decode cX6_beginning 10 = .ok (.iconst 1, 1) := by decide +kernel
theorem dX6_beginning_11 : decode cX6_beginning 11 = .ok (.isub, 1) := by decide +kernel
theorem dX6_beginning_12 : decode cX6_beginning 12 = .ok (.istore_n 3, 1) := by decide +kernel
theorem dX6_beginning_13 : decode cX6_beginning 13 = .ok (.iload_n 3, 1) := by decide +kernel
theorem dX6_beginning_14 : decode cX6_beginning 14 = .ok (.ifCond .lt 40, 3) := by decide +kernel
theorem dX6_beginning_17 : decode cX6_beginning 17 = .ok (.aload_n 0, 1) := by decide +kernel
theorem dX6_beginning_18 : decode cX6_beginning 18 = .ok (.getfield 48, 3) := by decide +kernel
theorem dX6_beginning_21 : decode cX6_beginning 21 = .ok (.aload_n 0, 1) := by decide +kernel
theorem dX6_beginning_22 : decode cX6_beginning 22 = .ok (.aload_n 0, 1) := by decide +kernel
theorem dX6_beginning_23 : decode cX6_beginning 23 = .ok (.getfield 32, 3) := by decide +kernel
theorem dX6_beginning_26 : decode cX6_beginning 26 = .ok (.iload_n 3, 1) := by decide +kernel
theorem dX6_beginning_27 : decode cX6_beginning 27 = .ok (.iaload, 1) := by decide +kernel
theorem dX6_beginning_28 : decode cX6_beginning 28 = .ok (.iconst 1, 1) := by decide +kernel
theorem dX6_beginning_29 : decode cX6_beginning 29 = .ok (.invokevirtual 64, 3) := by decide +kernel
theorem dX6_beginning_32 : decode cX6_beginning 32 = .ok (.iaload, 1) := by decide +kernel
theorem dX6_beginning_33 : decode cX6_beginning 33 = .ok (.iload_n 1, 1) := by decide +kernel
theorem dX6_beginning_34 : decode cX6_beginning 34 = .ok (.if_icmp .ne 12, 3) := by decide +kernel
theorem dX6_beginning_37 : decode cX6_beginning 37 = .ok (.aload_n 0, 1) := by decide +kernel
theorem dX6_beginning_38 : decode cX6_beginning 38 = .ok (.getfield 32, 3) := by decide +kernel
theorem dX6_beginning_41 : decode cX6_beginning 41 = .ok (.iload_n 3, 1) := by decide +kernel
theorem dX6_beginning_42 : decode cX6_beginning 42 = .ok (.iaload, 1) := by decide +kernel
theorem dX6_beginning_43 : decode cX6_beginning 43 = .ok (.goto 4, 3) := by decide +kernel
theorem dX6_beginning_46 : decode cX6_beginning 46 = .ok (.iload_n 2, 1) := by decide +kernel
theorem dX6_beginning_47 : decode cX6_beginning 47 = .ok (.istore_n 2, 1) := by decide +kernel
theorem dX6_beginning_48 : decode cX6_beginning 48 = .ok (.iinc 3 (-1), 3) := by decide +kernel
theorem dX6_beginning_51 : decode cX6_beginning 51 = .ok (.goto (-38), 3) := by decide +kernel
theorem dX6_beginning_54 : decode cX6_beginning 54 = .ok (.iload_n 2, 1) := by decide +kernel
theorem dX6_beginning_55 : decode cX6_beginning 55 = .ok (.ireturn, 1) := by decide +kernel
theorem dX6_hang_0 : decode cX6_hang 0 = .ok (.iconst 0, 1) := by decide +kernel
theorem dX6_hang_1 : decode cX6_hang 1 = .ok (.istore_n 1, 1) := by decide +kernel
theorem dX6_hang_2 : decode cX6_hang 2 = .ok (.iload_n 1, 1) := by decide +kernel
theorem dX6_hang_3 : decode cX6_hang 3 = .ok (.aload_n 0, 1) := by decide +kernel
theorem dX6_hang_4 : decode cX6_hang 4 = .ok (.getfield 57, 3) := by decide +kernel
theorem dX6_hang_7 : decode cX6_hang 7 = .ok (.if_icmp .ge 16, 3) := by decide +kernel
theorem dX6_hang_10 : decode cX6_hang 10 = .ok (.aload_n 0, 1) := by decide +kernel
theorem dX6_hang_11 : decode cX6_hang 11 = .ok (.getfield 45, 3) := by decide +kernel
theorem dX6_hang_14 : decode cX6_hang 14 = .ok (.iload_n 1, 1) := by decide +kernel
theorem dX6_hang_15 : decode cX6_hang 15 = .ok (.iload_n 1, 1) := by decide +kernel
theorem dX6_hang_16 : decode cX6_hang 16 = .ok (.iastore, 1) := by decide +kernel
theorem dX6_hang_17 : decode cX6_hang 17 = .ok (.iinc 1 1, 3) := by decide +kernel
theorem dX6_hang_20 : decode cX6_hang 20 = .ok (.goto (-18), 3) := by decide +kernel
theorem dX6_hang_23 : decode cX6_hang 23 = .ok (.iconst 1, 1) := by decide +kernel
theorem dX6_hang_24 : decode cX6_hang 24 = .ok (.istore_n 1, 1) := by decide +kernel
theorem dX6_hang_25 : decode cX6_hang 25 = .ok (.iload_n 1, 1) := by decide +kernel
theorem dX6_hang_26 : decode cX6_hang 26 = .ok (.ifCond .eq 96, 3) := by decide +kernel
theorem dX6_hang_29 : decode cX6_hang 29 = .ok (.iconst 0, 1) := by decide +kernel
theorem dX6_hang_30 : decode cX6_hang 30 = .ok (.istore_n 1, 1) := by decide +kernel
theorem dX6_hang_31 : decode cX6_hang 31 = .ok (.iconst 0, 1) := by decide +kernel
theorem dX6_hang_32 : decode cX6_hang 32 = .ok (.istore_n 2, 1) := by decide +kernel
theorem dX6_hang_33 : decode cX6_hang 33 = .ok (.iload_n 2, 1) := by decide +kernel
theorem dX6_hang_34 : decode cX6_hang 34 = .ok (.iconst 4, 1) := by decide +kernel
theorem dX6_hang_35 : decode cX6_hang 35 = .ok (.aload_n 0, 1) := by decide +kernel
theorem dX6_hang_36 : decode cX6_hang 36 = .ok (.getfield 57, 3) := by decide +kernel
theorem dX6_hang_39 : decode cX6_hang 39 = .ok (.imul, 1) := by decide +kernel
theorem dX6_hang_40 : decode cX6_hang 40 = .ok (.if_icmp .ge 79, 3) := by decide +kernel
theorem dX6_hang_43 : decode cX6_hang 43 = .ok (.iconst 0, 1) := by decide +kernel
theorem dX6_hang_44 : decode cX6_hang 44 = .ok (.istore_n 3, 1) := by decide +kernel
theorem dX6_hang_45 : decode cX6_hang 45 = .ok (.iload_n 3, 1) := by decide +kernel
theorem dX6_hang_46 : decode cX6_hang 46 = .ok (.iconst 4, 1) := by decide +kernel
theorem dX6_hang_47 : decode cX6_hang 47 = .ok (.aload_n 0, 1) := by decide +kernel
theorem dX6_hang_48 : decode cX6_hang 48 = .ok (.getfield 57, 3) := by decide +kernel
theorem dX6_hang_51 : decode cX6_hang 51 = .ok (.imul, 1) := by decide +kernel
theorem dX6_hang_52 : decode cX6_hang 52 = .ok (.if_icmp .ge 61, 3) := by decide +kernel
theorem dX6_hang_55 : decode cX6_hang 55 = .ok (.aload_n 0, 1) := by decide +kernel
theorem dX6_hang_56 : decode cX6_hang 56 = .ok (.getfield 23, 3) := by decide +kernel
theorem dX6_hang_59 : decode cX6_hang 59 = .ok (.iload_n 2, 1) := by decide +kernel
theorem dX6_hang_60 : decode cX6_hang 60 = .ok (.iaload, 1) := by decide +kernel
theorem dX6_hang_61 : decode cX6_hang 61 = .ok (.aload_n 0, 1) := by decide +kernel
theorem dX6_hang_62 : decode cX6_hang 62 = .ok (.getfield 23, 3) := by decide +kernel
theorem dX6_hang_65 : decode cX6_hang 65 = .ok (.iload_n 3, 1) := by decide +kernel
theorem dX6_hang_66 : decode cX6_hang 66 = .ok (.iaload, 1) := by decide +kernel
theorem dX6_hang_67 : decode cX6_hang 67 = .ok (.if_icmp .ne 40, 3) := by decide +kernel
theorem dX6_hang_70 : decode cX6_hang 70 = .ok (.aload_n 0, 1) := by decide +kernel
theorem dX6_hang_71 : decode cX6_hang 71 = .ok (.getfield 45, 3) := by decide +kernel
theorem dX6_hang_74 : decode cX6_hang 74 = .ok (.iload_n 2, 1) := by decide +kernel
theorem dX6_hang_75 : decode cX6_hang 75 = .ok (.iconst 4, 1) := by decide +kernel
theorem dX6_hang_76 : decode cX6_hang 76 = .ok (.idiv, 1) := by decide +kernel
theorem dX6_hang_77 : decode cX6_hang 77 = .ok (.iaload, 1) := by decide +kernel
theorem dX6_hang_78 : decode cX6_hang 78 = .ok (.aload_n 0, 1) := by decide +kernel
theorem dX6_hang_79 : decode cX6_hang 79 = .ok (.getfield 45, 3) := by decide +kernel
theorem dX6_hang_82 : decode cX6_hang 82 = .ok (.iload_n 3, 1) := by decide +kernel
theorem dX6_hang_83 : decode cX6_hang 83 = .ok (.iconst 4, 1) := by decide +kernel
theorem dX6_hang_84 : decode cX6_hang 84 = .ok (.idiv, 1) := by decide +kernel
theorem dX6_hang_85 : decode cX6_hang 85 = .ok (.iaload, 1) := by decide +kernel
theorem dX6_hang_86 : decode cX6_hang 86 = .ok (.if_icmp .ge 21, 3) := by decide +kernel
theorem dX6_hang_89 : decode cX6_hang 89 = .ok (.aload_n 0, 1) := by decide +kernel
theorem dX6_hang_90 : decode cX6_hang 90 = .ok (.getfield 45, 3) := by decide +kernel
theorem dX6_hang_93 : decode cX6_hang 93 = .ok (.iload_n 3, 1) := by decide +kernel
theorem dX6_hang_94 : decode cX6_hang 94 = .ok (.iconst 4, 1) := by decide +kernel
theorem dX6_hang_95 : decode cX6_hang 95 = .ok (.idiv, 1) := by decide +kernel
theorem dX6_hang_96 : decode cX6_hang 96 = .ok (.aload_n 0, 1) := by decide +kernel
theorem dX6_hang_97 : decode cX6_hang 97 = .ok (.getfield 45, 3) := by decide +kernel
theorem dX6_hang_100 : decode cX6_hang 100 = .ok (.iload_n 2, 1) := by decide +kernel
theorem dX6_hang_101 : decode cX6_hang 101 = .ok (.iconst 4, 1) := by decide +kernel
theorem dX6_hang_102 : decode cX6_hang 102 = .ok (.idiv, 1) := by decide +kernel
theorem dX6_hang_103 : decode cX6_hang 103 = .ok (.iaload, 1) := by decide +kernel
theorem dX6_hang_104 : decode cX6_hang 104 = .ok (.iastore, 1) := by decide +kernel
theorem dX6_hang_105 : decode cX6_hang 105 = .ok (.iconst 1, 1) := by decide +kernel
theorem dX6_hang_106 : decode cX6_hang 106 = .ok (.istore_n 1, 1) := by decide +kernel
theorem dX6_hang_107 : decode cX6_hang 107 = .ok (.iinc 3 1, 3) := by decide +kernel
theorem dX6_hang_110 : decode cX6_hang 110 = .ok (.goto (-65), 3) := by decide +kernel
theorem dX6_hang_113 : decode cX6_hang 113 = .ok (.iinc 2 1, 3) := by decide +kernel
theorem dX6_hang_116 : decode cX6_hang 116 = .ok (.goto (-83), 3) := by decide +kernel
theorem dX6_hang_119 : decode cX6_hang 119 = .ok (.goto (-94), 3) := by decide +kernel
theorem dX6_hang_122 : decode cX6_hang 122 = .ok (.return_, 1) := by decide +kernel
set_option maxRecDepth 20000 in
theorem ggX6_pieceOf_X6_hang : GoodIn wsX6_pieceOf wsX6_hang := goodIn_r _ [6, 7, 1, 8, 9, 10, 11, 12, 13, 14, 15, 16, 17, 18, 19, 20, 21, 22, 23, 24, 25, 26, 27, 28, 29, 30, 31] (by decide +kernel) (by decide +kernel)
set_option maxRecDepth 20000 in
theorem gX6_pieceOf_X6_hang : GoodIn wsX6_pieceOf (wsV RX6 87 RX6 yX6_hang wsX6_hang) := goodIn_app (goodIn_of _ (by decide +kernel)) ggX6_pieceOf_X6_hang
theorem dX6_pieceOf_0 : decode cX6_pieceOf 0 = .ok (.aload_n 0, 1) := by decide +kernel
theorem dX6_pieceOf_1 : decode cX6_pieceOf 1 = .ok (.invokevirtual 87, 3) := by decide +kernel
theorem dX6_pieceOf_4 : decode cX6_pieceOf 4 = .ok (.iconst 0, 1) := by decide +kernel
theorem dX6_pieceOf_5 : decode cX6_pieceOf 5 = .ok (.istore_n 2, 1) := by decide +kernel
theorem dX6_pieceOf_6 : decode cX6_pieceOf 6 = .ok (.iconst 0, 1) := by decide +kernel
theorem dX6_pieceOf_7 : decode cX6_pieceOf 7 = .ok (.istore_n 3, 1) := by decide +kernel
theorem dX6_pieceOf_8 : decode cX6_pieceOf 8 = .ok (.iload_n 3, 1) := by decide +kernel
theorem dX6_pieceOf_9 : decode cX6_pieceOf 9 = .ok (.aload_n 0, 1) := by decide +kernel
theorem dX6_pieceOf_10 : decode cX6_pieceOf 10 = .ok (.getfield 45, 3) := by decide +kernel
theorem dX6_pieceOf_13 : decode cX6_pieceOf 13 = .ok (.iload_n 1, 1) := by decide +kernel
theorem dX6_pieceOf_14 : decode cX6_pieceOf 14 = .ok (.iaload, 1) := by decide +kernel
theorem dX6_pieceOf_15 : decode cX6_pieceOf 15 = .ok (.if_icmp .ge 27, 3) := by decide +kernel
theorem dX6_pieceOf_18 : decode cX6_pieceOf 18 = .ok (.iload_n 2, 1) := by decide +kernel
theorem dX6_pieceOf_19 : decode cX6_pieceOf 19 = .ok (.aload_n 0, 1) := by decide +kernel
theorem dX6_pieceOf_20 : decode cX6_pieceOf 20 = .ok (.getfield 45, 3) := by decide +kernel
theorem dX6_pieceOf_23 : decode cX6_pieceOf 23 = .ok (.iload_n 3, 1) := by decide +kernel
theorem dX6_pieceOf_24 : decode cX6_pieceOf 24 = .ok (.iaload, 1) := by decide +kernel
theorem dX6_pieceOf_25 : decode cX6_pieceOf 25 = .ok (.iload_n 3, 1) := by decide +kernel
theorem dX6_pieceOf_26 : decode cX6_pieceOf 26 = .ok (.if_icmp .ne 7, 3) := by decide +kernel
theorem dX6_pieceOf_29 : decode cX6_pieceOf 29 = .ok (.iconst 1, 1) := by decide +kernel
theorem dX6_pieceOf_30 : decode cX6_pieceOf 30 = .ok (.goto 4, 3) := by decide +kernel
theorem dX6_pieceOf_33 : decode cX6_pieceOf 33 = .ok (.iconst 0, 1) := by decide +kernel
theorem dX6_pieceOf_34 : decode cX6_pieceOf 34 = .ok (.iadd, 1) := by decide +kernel
theorem dX6_pieceOf_35 : decode cX6_pieceOf 35 = .ok (.istore_n 2, 1) := by decide +kernel
theorem dX6_pieceOf_36 : decode cX6_pieceOf 36 = .ok (.iinc 3 1, 3) := by decide +kernel
theorem dX6_pieceOf_39 : decode cX6_pieceOf 39 = .ok (.goto (-31), 3) := by decide +kernel
theorem dX6_pieceOf_42 : decode cX6_pieceOf 42 = .ok (.iload_n 2, 1) := by decide +kernel
theorem dX6_pieceOf_43 : decode cX6_pieceOf 43 = .ok (.ireturn, 1) := by decide +kernel
set_option maxRecDepth 20000 in
theorem ggX6_pieces_X6_hang : GoodIn wsX6_pieces wsX6_hang := goodIn_r _ [7, 1, 2, 8, 9, 10, 11, 12, 13, 14, 15, 16, 17, 18, 19, 20, 21, 22, 23, 24, 25, 26, 27, 28, 29, 30, 31] (by decide +kernel) (by decide +kernel)
set_option maxRecDepth 20000 in
theorem gX6_pieces_X6_hang : GoodIn wsX6_pieces (wsV RX6 87 RX6 yX6_hang wsX6_hang) := goodIn_app (goodIn_of _ (by decide +kernel)) ggX6_pieces_X6_hang
theorem dX6_pieces_0 : decode cX6_pieces 0 = .ok (.aload_n 0, 1) := by decide +kernel
theorem dX6_pieces_1 : decode cX6_pieces 1 = .ok (.invokevirtual 87, 3) := by decide +kernel
theorem dX6_pieces_4 : decode cX6_pieces 4 = .ok (.iconst 0, 1) := by decide +kernel
theorem dX6_pieces_5 : decode cX6_pieces 5 = .ok (.istore_n 1, 1) := by decide +kernel
theorem dX6_pieces_6 : decode cX6_pieces 6 = .ok (.iconst 0, 1) := by decide +kernel
theorem dX6_pieces_7 : decode cX6_pieces 7 = .ok (.istore_n 2, 1) := by decide +kernel
theorem dX6_pieces_8 : decode cX6_pieces 8 = .ok (.iload_n 2, 1) := by decide +kernel
theorem dX6_pieces_9 : decode cX6_pieces 9 = .ok (.aload_n 0, 1) := by decide +kernel
theorem dX6_pieces_10 : decode cX6_pieces 10 = .ok (.getfield 57, 3) := by decide +kernel
theorem dX6_pieces_13 : decode cX6_pieces 13 = .ok (.if_icmp .ge 27, 3) := by decide +kernel
theorem dX6_pieces_16 : decode cX6_pieces 16 = .ok (.iload_n 1, 1) := by decide +kernel
theorem dX6_pieces_17 : decode cX6_pieces 17 = .ok (.aload_n 0, 1) := by decide +kernel
theorem dX6_pieces_18 : decode cX6_pieces 18 = .ok (.getfield 45, 3) := by decide +kernel
theorem dX6_pieces_21 : decode cX6_pieces 21 = .ok (.iload_n 2, 1) := by decide +kernel
theorem dX6_pieces_22 : decode cX6_pieces 22 = .ok (.iaload, 1) := by decide +kernel
theorem dX6_pieces_23 : decode cX6_pieces 23 = .ok (.iload_n 2, 1) := by decide +kernel
theorem dX6_pieces_24 : decode cX6_pieces 24 = .ok (.if_icmp .ne 7, 3) := by decide +kernel
theorem dX6_pieces_27 : decode cX6_pieces 27 = .ok (.iconst 1, 1) := by decide +kernel
theorem dX6_pieces_28 : decode cX6_pieces 28 = .ok (.goto 4, 3) := by decide +kernel
theorem dX6_pieces_31 : decode cX6_pieces 31 = .ok (.iconst 0, 1) := by decide +kernel
theorem dX6_pieces_32 : decode cX6_pieces 32 = .ok (.iadd, 1) := by decide +kernel
theorem dX6_pieces_33 : decode cX6_pieces 33 = .ok (.istore_n 1, 1) := by decide +kernel
theorem dX6_pieces_34 : decode cX6_pieces 34 = .ok (.iinc 2 1, 3) := by decide +kernel
theorem dX6_pieces_37 : decode cX6_pieces 37 = .ok (.goto (-29), 3) := by decide +kernel
theorem dX6_pieces_40 : decode cX6_pieces 40 = .ok (.iload_n 1, 1) := by decide +kernel
theorem dX6_pieces_41 : decode cX6_pieces 41 = .ok (.ireturn, 1) := by decide +kernel
set_option maxRecDepth 20000 in
theorem ggX6_turn_X6_placeOf : GoodIn wsX6_turn wsX6_placeOf := goodIn_r _ [6, 7, 1, 8, 9, 10, 5, 11, 12, 13, 14, 15, 16, 17, 18, 19, 20, 21, 22, 23, 24, 25, 26, 27, 28, 29, 30, 31, 32, 33, 34, 35] (by decide +kernel) (by decide +kernel)
set_option maxRecDepth 20000 in
theorem gX6_turn_X6_placeOf : GoodIn wsX6_turn (wsV RX6 64 RX6 yX6_placeOf wsX6_placeOf) := goodIn_app (goodIn_of _ (by decide +kernel)) ggX6_turn_X6_placeOf
set_option maxRecDepth 20000 in
theorem ggX6_turn_X6_isOut : GoodIn wsX6_turn wsX6_isOut := goodIn_r _ [11, 12, 13, 14, 15, 16, 17, 18, 19, 20, 21, 22, 23, 24, 25, 26, 27, 28, 29, 30, 31, 32, 33, 34, 35] (by decide +kernel) (by decide +kernel)
set_option maxRecDepth 20000 in
theorem gX6_turn_X6_isOut : GoodIn wsX6_turn (wsV RX6 60 RX6 yX6_isOut wsX6_isOut) := goodIn_app (goodIn_of _ (by decide +kernel)) ggX6_turn_X6_isOut
theorem dX6_turn_0 : decode cX6_turn 0 = .ok (.aload_n 0, 1) := by decide +kernel
theorem dX6_turn_1 : decode cX6_turn 1 = .ok (.iload_n 1, 1) := by decide +kernel
theorem dX6_turn_2 : decode cX6_turn 2 = .ok (.iconst 2, 1) := by decide +kernel
theorem dX6_turn_3 : decode cX6_turn 3 = .ok (.idiv, 1) := by decide +kernel
theorem dX6_turn_4 : decode cX6_turn 4 = .ok (.iload_n 1, 1) := by decide +kernel
theorem dX6_turn_5 : decode cX6_turn 5 = .ok (.iconst 2, 1) := by decide +kernel
theorem dX6_turn_6 : decode cX6_turn 6 = .ok (.irem, 1) := by decide +kernel
theorem dX6_turn_7 : decode cX6_turn 7 = .ok (.iconst 1, 1) := by decide +kernel
theorem dX6_turn_8 : decode cX6_turn 8 = .ok (.if_icmp .ne 7, 3) := by decide +kernel
theorem dX6_turn_11 : decode cX6_turn 11 = .ok (.iconst 1, 1) := by decide +kernel
theorem dX6_turn_12 : decode cX6_turn 12 = .ok (.goto 4, 3) := by decide +kernel
theorem dX6_turn_15 : decode cX6_turn 15 = .ok (.iconst 0, 1) := by decide +kernel
theorem dX6_turn_16 : decode cX6_turn 16 = .ok (.invokevirtual 64, 3) := by decide +kernel
theorem dX6_turn_19 : decode cX6_turn 19 = .ok (.istore_n 2, 1) := by decide +kernel
theorem dX6_turn_20 : decode cX6_turn 20 = .ok (.iload_n 2, 1) := by decide +kernel
theorem dX6_turn_21 : decode cX6_turn 21 = .ok (.iconst 4, 1) := by decide +kernel
theorem dX6_turn_22 : decode cX6_turn 22 = .ok (.idiv, 1) := by decide +kernel
theorem dX6_turn_23 : decode cX6_turn 23 = .ok (.iconst 4, 1) := by decide +kernel
theorem dX6_turn_24 : decode cX6_turn 24 = .ok (.imul, 1) := by decide +kernel
theorem dX6_turn_25 : decode cX6_turn 25 = .ok (.iload_n 2, 1) := by decide +kernel
theorem dX6_turn_26 : decode cX6_turn 26 = .ok (.iconst 3, 1) := by decide +kernel
theorem dX6_turn_27 : decode cX6_turn 27 = .ok (.iadd, 1) := by decide +kernel
theorem dX6_turn_28 : decode cX6_turn 28 = .ok (.iconst 4, 1) := by decide +kernel
theorem dX6_turn_29 : decode cX6_turn 29 = .ok (.irem, 1) := by decide +kernel
theorem dX6_turn_30 : decode cX6_turn 30 = .ok (.iadd, 1) := by decide +kernel
theorem dX6_turn_31 : decode cX6_turn 31 = .ok (.istore_n 3, 1) := by decide +kernel
theorem dX6_turn_32 : decode cX6_turn 32 = .ok (.iconst 2, 1) := by decide +kernel
theorem dX6_turn_33 : decode cX6_turn 33 = .ok (.aload_n 0, 1) := by decide +kernel
theorem dX6_turn_34 : decode cX6_turn 34 = .ok (.getfield 23, 3) := by decide +kernel
theorem dX6_turn_37 : decode cX6_turn 37 = .ok (.iload_n 3, 1) := by decide +kernel
theorem dX6_turn_38 : decode cX6_turn 38 = .ok (.iaload, 1) := by decide +kernel
theorem dX6_turn_39 : decode cX6_turn 39 = .ok (.imul, 1) := by decide +kernel
theorem dX6_turn_40 : decode cX6_turn 40 = .ok (.aload_n 0, 1) := by decide +kernel
theorem dX6_turn_41 : decode cX6_turn 41 = .ok (.iload_n 3, 1) := by decide +kernel
theorem dX6_turn_42 : decode cX6_turn 42 = .ok (.invokevirtual 60, 3) := by decide +kernel
theorem dX6_turn_45 : decode cX6_turn 45 = .ok (.ifCond .eq 7, 3) := by decide +kernel
theorem dX6_turn_48 : decode cX6_turn 48 = .ok (.iconst 0, 1) := by decide +kernel
theorem dX6_turn_49 : decode cX6_turn 49 = .ok (.goto 4, 3) := by decide +kernel
theorem dX6_turn_52 : decode cX6_turn 52 = .ok (.iconst 1, 1) := by decide +kernel
theorem dX6_turn_53 : decode cX6_turn 53 = .ok (.iadd, 1) := by decide +kernel
theorem dX6_turn_54 : decode cX6_turn 54 = .ok (.ireturn, 1) := by decide +kernel
theorem dX6_rowOf_0 : decode cX6_rowOf 0 = .ok (.iconst 0, 1) := by decide +kernel
theorem dX6_rowOf_1 : decode cX6_rowOf 1 = .ok (.istore_n 2, 1) := by decide +kernel
theorem dX6_rowOf_2 : decode cX6_rowOf 2 = .ok (.aload_n 0, 1) := by decide +kernel
theorem dX6_rowOf_3 : decode cX6_rowOf 3 = .ok (.getfield 32, 3) := by decide +kernel
theorem dX6_rowOf_6 : decode cX6_rowOf 6 = .ok (.iload_n 2, 1) := by decide +kernel
theorem dX6_rowOf_7 : decode cX6_rowOf 7 = .ok (.iaload, 1) := by decide +kernel
theorem dX6_rowOf_8 : decode cX6_rowOf 8 = .ok (.iload_n 1, 1) := by decide +kernel
theorem dX6_rowOf_9 : decode cX6_rowOf 9 = .ok (.if_icmp .eq 9, 3) := by decide +kernel
theorem dX6_rowOf_12 : decode cX6_rowOf 12 = .ok (.iinc 2 1, 3) := by decide +kernel
theorem dX6_rowOf_15 : decode cX6_rowOf 15 = .ok (.goto (-13), 3) := by decide +kernel
theorem dX6_rowOf_18 : decode cX6_rowOf 18 = .ok (.iload_n 2, 1) := by decide +kernel
theorem dX6_rowOf_19 : decode cX6_rowOf 19 = .ok (.ireturn, 1) := by decide +kernel
set_option maxRecDepth 20000 in
theorem ggX6_findFaces_X6_sort : GoodIn wsX6_findFaces wsX6_sort := goodIn_r _ [9, 3, 10, 4, 11, 29, 30, 31, 32, 33, 34, 35, 36, 37, 38, 39, 40, 41, 42, 43, 44, 45, 46, 47, 48, 49, 50, 51] (by decide +kernel) (by decide +kernel)
set_option maxRecDepth 20000 in
theorem gX6_findFaces_X6_sort : GoodIn wsX6_findFaces (wsV RX6 78 RX6 yX6_sort wsX6_sort) := goodIn_app (goodIn_of _ (by decide +kernel)) ggX6_findFaces_X6_sort
set_option maxRecDepth 20000 in
theorem ggX6_findFaces_X6_rowOf : GoodIn wsX6_findFaces wsX6_rowOf := goodIn_r _ [15, 4, 29, 30, 31, 32, 33, 34, 35, 36, 37, 38, 39, 40, 41, 42, 43, 44, 45, 46, 47, 48, 49, 50, 51] (by decide +kernel) (by decide +kernel)
set_option maxRecDepth 20000 in
theorem gX6_findFaces_X6_rowOf : GoodIn wsX6_findFaces (wsV RX6 93 RX6 yX6_rowOf wsX6_rowOf) := goodIn_app (goodIn_of _ (by decide +kernel)) ggX6_findFaces_X6_rowOf
set_option maxRecDepth 20000 in
theorem ggX6_findFaces_X6_turn : GoodIn wsX6_findFaces wsX6_turn := goodIn_r _ [19, 11, 20, 21, 22, 8, 23, 10, 24, 25, 26, 27, 28, 29, 30, 31, 32, 33, 34, 35, 36, 37, 38, 39, 40, 41, 42, 43, 44, 45, 46, 47, 48, 49, 50, 51] (by decide +kernel) (by decide +kernel)
set_option maxRecDepth 20000 in
theorem gX6_findFaces_X6_turn : GoodIn wsX6_findFaces (wsV RX6 96 RX6 yX6_turn wsX6_turn) := goodIn_app (goodIn_of _ (by decide +kernel)) ggX6_findFaces_X6_turn
theorem dX6_findFaces_0 : decode cX6_findFaces 0 = .ok (.aload_n 0, 1) := by decide +kernel
theorem dX6_findFaces_1 : decode cX6_findFaces 1 = .ok (.invokevirtual 78, 3) := by decide +kernel
theorem dX6_findFaces_4 : decode cX6_findFaces 4 = .ok (.iconst 0, 1) := by decide +kernel
theorem dX6_findFaces_5 : decode cX6_findFaces 5 = .ok (.istore_n 1, 1) := by decide +kernel
theorem dX6_findFaces_6 : decode cX6_findFaces 6 = .ok (.iload_n 1, 1) := by decide +kernel
theorem dX6_findFaces_7 : decode cX6_findFaces 7 = .ok (.bipush 80, 2) := by decide +kernel
theorem dX6_findFaces_9 : decode cX6_findFaces 9 = .ok (.if_icmp .ge 16, 3) := by decide +kernel
theorem dX6_findFaces_12 : decode cX6_findFaces 12 = .ok (.aload_n 0, 1) := by decide +kernel
theorem dX6_findFaces_13 : decode cX6_findFaces 13 = .ok (.getfield 51, 3) := by decide +kernel
theorem dX6_findFaces_16 : decode cX6_findFaces 16 = .ok (.iload_n 1, 1) := by decide +kernel
theorem dX6_findFaces_17 : decode cX6_findFaces 17 = .ok (.iconst (-1), 1) := by decide +kernel
theorem dX6_findFaces_18 : decode cX6_findFaces 18 = .ok (.iastore, 1) := by decide +kernel
theorem dX6_findFaces_19 : decode cX6_findFaces 19 = .ok (.iinc 1 1, 3) := by decide +kernel
theorem dX6_findFaces_22 : decode cX6_findFaces 22 = .ok (.goto (-16), 3) := by decide +kernel
theorem dX6_findFaces_25 : decode cX6_findFaces 25 = .ok (.aload_n 0, 1) := by decide +kernel
theorem dX6_findFaces_26 : decode cX6_findFaces 26 = .ok (.iconst 0, 1) := by decide +kernel
theorem dX6_findFaces_27 : decode cX6_findFaces 27 = .ok (.putfield 90, 3) := by decide +kernel
theorem dX6_findFaces_30 : decode cX6_findFaces 30 = .ok (.iconst 0, 1) := by decide +kernel
theorem dX6_findFaces_31 : decode cX6_findFaces 31 = .ok (.istore_n 1, 1) := by decide +kernel
theorem dX6_findFaces_32 : decode cX6_findFaces 32 = .ok (.iload_n 1, 1) := by decide +kernel
theorem dX6_findFaces_33 : decode cX6_findFaces 33 = .ok (.iconst 2, 1) := by decide +kernel
theorem dX6_findFaces_34 : decode cX6_findFaces 34 = .ok (.aload_n 0, 1) := by decide +kernel
theorem dX6_findFaces_35 : decode cX6_findFaces 35 = .ok (.getfield 72, 3) := by decide +kernel
theorem dX6_findFaces_38 : decode cX6_findFaces 38 = .ok (.imul, 1) := by decide +kernel
theorem dX6_findFaces_39 : decode cX6_findFaces 39 = .ok (.if_icmp .ge 113, 3) := by decide +kernel
theorem dX6_findFaces_42 : decode cX6_findFaces 42 = .ok (.iconst 2, 1) := by decide +kernel
theorem dX6_findFaces_43 : decode cX6_findFaces 43 = .ok (.aload_n 0, 1) := by decide +kernel
theorem dX6_findFaces_44 : decode cX6_findFaces 44 = .ok (.getfield 32, 3) := by decide +kernel
theorem dX6_findFaces_47 : decode cX6_findFaces 47 = .ok (.iload_n 1, 1) := by decide +kernel
theorem dX6_findFaces_48 : decode cX6_findFaces 48 = .ok (.iconst 2, 1) := by decide +kernel
theorem dX6_findFaces_49 : decode cX6_findFaces 49 = .ok (.idiv, 1) := by decide +kernel
theorem dX6_findFaces_50 : decode cX6_findFaces 50 = .ok (.iaload, 1) := by decide +kernel
theorem dX6_findFaces_51 : decode cX6_findFaces 51 = .ok (.imul, 1) := by decide +kernel
theorem dX6_findFaces_52 : decode cX6_findFaces 52 = .ok (.iload_n 1, 1) := by decide +kernel
theorem dX6_findFaces_53 : decode cX6_findFaces 53 = .ok (.iconst 2, 1) := by decide +kernel
theorem dX6_findFaces_54 : decode cX6_findFaces 54 = .ok (.irem, 1) := by decide +kernel
theorem dX6_findFaces_55 : decode cX6_findFaces 55 = .ok (.iadd, 1) := by decide +kernel
theorem dX6_findFaces_56 : decode cX6_findFaces 56 = .ok (.istore_n 2, 1) := by decide +kernel
theorem dX6_findFaces_57 : decode cX6_findFaces 57 = .ok (.aload_n 0, 1) := by decide +kernel
theorem dX6_findFaces_58 : decode cX6_findFaces 58 = .ok (.getfield 51, 3) := by decide +kernel
theorem dX6_findFaces_61 : decode cX6_findFaces 61 = .ok (.iload_n 1, 1) := by decide +kernel
theorem dX6_findFaces_62 : decode cX6_findFaces 62 = .ok (.iaload, 1) := by decide +kernel
theorem dX6_findFaces_63 : decode cX6_findFaces 63 = .ok (.ifCond .ge 7, 3) := by decide +kernel
theorem dX6_findFaces_66 : decode cX6_findFaces 66 = .ok (.iconst 1, 1) := by decide +kernel
theorem dX6_findFaces_67 : decode cX6_findFaces 67 = .ok (.goto 4, 3) := by decide +kernel
theorem dX6_findFaces_70 : decode cX6_findFaces 70 = .ok (.iconst 0, 1) := by decide +kernel
theorem dX6_findFaces_71 : decode cX6_findFaces 71 = .ok (.istore_n 3, 1) := by decide +kernel
theorem dX6_findFaces_72 : decode cX6_findFaces 72 = .ok (.iload_n 3, 1) := by decide +kernel
theorem dX6_findFaces_73 : decode cX6_findFaces 73 = .ok (.ifCond .eq 55, 3) := by decide +kernel
theorem dX6_findFaces_76 : decode cX6_findFaces 76 = .ok (.aload_n 0, 1) := by decide +kernel
theorem dX6_findFaces_77 : decode cX6_findFaces 77 = .ok (.getfield 51, 3) := by decide +kernel
theorem dX6_findFaces_80 : decode cX6_findFaces 80 = .ok (.iconst 2, 1) := by decide +kernel
theorem dX6_findFaces_81 : decode cX6_findFaces 81 = .ok (.aload_n 0, 1) := by decide +kernel
theorem dX6_findFaces_82 : decode cX6_findFaces 82 = .ok (.iload_n 2, 1) := by decide +kernel
theorem dX6_findFaces_83 : decode cX6_findFaces 83 = .ok (.iconst 2, 1) := by decide +kernel
theorem dX6_findFaces_84 : decode cX6_findFaces 84 = .ok (.idiv, 1) := by decide +kernel
theorem dX6_findFaces_85 : decode cX6_findFaces 85 = .ok (.invokevirtual 93, 3) := by decide +kernel
theorem dX6_findFaces_88 : decode cX6_findFaces 88 = .ok (.imul, 1) := by decide +kernel
theorem dX6_findFaces_89 : decode cX6_findFaces 89 = .ok (.iload_n 2, 1) := by decide +kernel
theorem dX6_findFaces_90 : decode cX6_findFaces 90 = .ok (.iconst 2, 1) := by decide +kernel
theorem dX6_findFaces_91 : decode cX6_findFaces 91 = .ok (.irem, 1) := by decide +kernel
theorem dX6_findFaces_92 : decode cX6_findFaces 92 = .ok (.iadd, 1) := by decide +kernel
theorem dX6_findFaces_93 : decode cX6_findFaces 93 = .ok (.iaload, 1) := by decide +kernel
theorem dX6_findFaces_94 : decode cX6_findFaces 94 = .ok (.ifCond .ge 34, 3) := by decide +kernel
theorem dX6_findFaces_97 : decode cX6_findFaces 97 = .ok (.aload_n 0, 1) := by decide +kernel
theorem dX6_findFaces_98 : decode cX6_findFaces 98 = .ok (.getfield 51, 3) := by decide +kernel
theorem dX6_findFaces_101 : decode cX6_findFaces 101 = .ok (.iconst 2, 1) := by decide +kernel
theorem dX6_findFaces_102 : decode cX6_findFaces 102 = .ok (.aload_n 0, 1) := by decide +kernel
theorem dX6_findFaces_103 : decode cX6_findFaces 103 = .ok (.iload_n 2, 1) := by decide +kernel
theorem dX6_findFaces_104 : decode cX6_findFaces 104 = .ok (.iconst 2, 1) := by decide +kernel
theorem dX6_findFaces_105 : decode cX6_findFaces 105 = .ok (.idiv, 1) := by decide +kernel
theorem dX6_findFaces_106 : decode cX6_findFaces 106 = .ok (.invokevirtual 93, 3) := by decide +kernel
theorem dX6_findFaces_109 : decode cX6_findFaces 109 = .ok (.imul, 1) := by decide +kernel
theorem dX6_findFaces_110 : decode cX6_findFaces 110 = .ok (.iload_n 2, 1) := by decide +kernel
theorem dX6_findFaces_111 : decode cX6_findFaces 111 = .ok (.iconst 2, 1) := by decide +kernel
theorem dX6_findFaces_112 : decode cX6_findFaces 112 = .ok (.irem, 1) := by decide +kernel
theorem dX6_findFaces_113 : decode cX6_findFaces 113 = .ok (.iadd, 1) := by decide +kernel
theorem dX6_findFaces_114 : decode cX6_findFaces 114 = .ok (.aload_n 0, 1) := by decide +kernel
theorem dX6_findFaces_115 : decode cX6_findFaces 115 = .ok (.getfield 90, 3) := by decide +kernel
theorem dX6_findFaces_118 : decode cX6_findFaces 118 = .ok (.iastore, 1) := by decide +kernel
theorem dX6_findFaces_119 : decode cX6_findFaces 119 = .ok (.aload_n 0, 1) := by decide +kernel
theorem dX6_findFaces_120 : decode cX6_findFaces 120 = .ok (.iload_n 2, 1) := by decide +kernel
theorem dX6_findFaces_121 : decode cX6_findFaces 121 = .ok (.invokevirtual 96, 3) := by decide +kernel
theorem dX6_findFaces_124 : decode cX6_findFaces 124 = .ok (.istore_n 2, 1) := by decide +kernel
theorem dX6_findFaces_125 : decode cX6_findFaces 125 = .ok (.goto (-53), 3) := by decide +kernel
theorem dX6_findFaces_128 : decode cX6_findFaces 128 = .ok (.aload_n 0, 1) := by decide +kernel
theorem dX6_findFaces_129 : decode cX6_findFaces 129 = .ok (.dup, 1) := by decide +kernel
theorem dX6_findFaces_130 : decode cX6_findFaces 130 = .ok (.getfield 90, 3) := by decide +kernel
theorem dX6_findFaces_133 : decode cX6_findFaces 133 = .ok (.iload_n 3, 1) := by decide +kernel
theorem dX6_findFaces_134 : decode cX6_findFaces 134 = .ok (.ifCond .eq 7, 3) := by decide +kernel
theorem dX6_findFaces_137 : decode cX6_findFaces 137 = .ok (.iconst 1, 1) := by decide +kernel
theorem dX6_findFaces_138 : decode cX6_findFaces 138 = .ok (.goto 4, 3) := by decide +kernel
theorem dX6_findFaces_141 : decode cX6_findFaces 141 = .ok (.iconst 0, 1) := by decide +kernel
theorem dX6_findFaces_142 : decode cX6_findFaces 142 = .ok (.iadd, 1) := by decide +kernel
theorem dX6_findFaces_143 : decode cX6_findFaces 143 = .ok (.putfield 90, 3) := by decide +kernel
theorem dX6_findFaces_146 : decode cX6_findFaces 146 = .ok (.iinc 1 1, 3) := by decide +kernel
theorem dX6_findFaces_149 : decode cX6_findFaces 149 = .ok (.goto (-117), 3) := by decide +kernel
theorem dX6_findFaces_152 : decode cX6_findFaces 152 = .ok (.return_, 1) := by decide +kernel
set_option maxRecDepth 20000 in
theorem ggX6_facesAt_X6_placeOf : GoodIn wsX6_facesAt wsX6_placeOf := goodIn_r _ [9, 10, 11, 12, 13, 14, 8, 15, 16, 17, 18, 19, 20, 21, 22, 23, 24, 25, 26, 27, 28, 29, 30, 31, 32, 33, 34, 35, 36, 37, 38, 39] (by decide +kernel) (by decide +kernel)
set_option maxRecDepth 20000 in
theorem gX6_facesAt_X6_placeOf : GoodIn wsX6_facesAt (wsV RX6 64 RX6 yX6_placeOf wsX6_placeOf) := goodIn_app (goodIn_of _ (by decide +kernel)) ggX6_facesAt_X6_placeOf
theorem dX6_facesAt_0 : decode cX6_facesAt 0 = .ok (.iconst 0, 1) := by decide +kernel
theorem dX6_facesAt_1 : decode cX6_facesAt 1 = .ok (.istore_n 2, 1) := by decide +kernel
theorem dX6_facesAt_2 : decode cX6_facesAt 2 = .ok (.iconst (-1), 1) := by decide +kernel
theorem dX6_facesAt_3 : decode cX6_facesAt 3 = .ok (.istore_n 3, 1) := by decide +kernel
theorem dX6_facesAt_4 : decode cX6_facesAt 4 = .ok (.iconst 0, 1) := by decide +kernel
theorem dX6_facesAt_5 : decode cX6_facesAt 5 = .ok (.istore 4, 2) := by decide +kernel
theorem dX6_facesAt_7 : decode cX6_facesAt 7 = .ok (.iload 4, 2) := by decide +kernel
theorem dX6_facesAt_9 : decode cX6_facesAt 9 = .ok (.iconst 2, 1) := by decide +kernel
theorem dX6_facesAt_10 : decode cX6_facesAt 10 = .ok (.aload_n 0, 1) := by decide +kernel
theorem dX6_facesAt_11 : decode cX6_facesAt 11 = .ok (.getfield 72, 3) := by decide +kernel
theorem dX6_facesAt_14 : decode cX6_facesAt 14 = .ok (.imul, 1) := by decide +kernel
theorem dX6_facesAt_15 : decode cX6_facesAt 15 = .ok (.if_icmp .ge 82, 3) := by decide +kernel
theorem dX6_facesAt_18 : decode cX6_facesAt 18 = .ok (.aload_n 0, 1) := by decide +kernel
theorem dX6_facesAt_19 : decode cX6_facesAt 19 = .ok (.getfield 51, 3) := by decide +kernel
theorem dX6_facesAt_22 : decode cX6_facesAt 22 = .ok (.iload 4, 2) := by decide +kernel
theorem dX6_facesAt_24 : decode cX6_facesAt 24 = .ok (.iaload, 1) := by decide +kernel
theorem dX6_facesAt_25 : decode cX6_facesAt 25 = .ok (.iload_n 3, 1) := by decide +kernel
theorem dX6_facesAt_26 : decode cX6_facesAt 26 = .ok (.if_icmp .le 7, 3) := by decide +kernel
theorem dX6_facesAt_29 : decode cX6_facesAt 29 = .ok (.iconst 1, 1) := by decide +kernel
theorem dX6_facesAt_30 : decode cX6_facesAt 30 = .ok (.goto 4, 3) := by decide +kernel
theorem dX6_facesAt_33 : decode cX6_facesAt 33 = .ok (.iconst 0, 1) := by decide +kernel
theorem dX6_facesAt_34 : decode cX6_facesAt 34 = .ok (.istore 5, 2) := by decide +kernel
theorem dX6_facesAt_36 : decode cX6_facesAt 36 = .ok (.iload_n 2, 1) := by decide +kernel
theorem dX6_facesAt_37 : decode cX6_facesAt 37 = .ok (.iload 5, 2) := by decide +kernel
theorem dX6_facesAt_39 : decode cX6_facesAt 39 = .ok (.ifCond .eq 32, 3) := by decide +kernel
theorem dX6_facesAt_42 : decode cX6_facesAt 42 = .ok (.aload_n 0, 1) := by decide +kernel
theorem dX6_facesAt_43 : decode cX6_facesAt 43 = .ok (.getfield 45, 3) := by decide +kernel
theorem dX6_facesAt_46 : decode cX6_facesAt 46 = .ok (.aload_n 0, 1) := by decide +kernel
theorem dX6_facesAt_47 : decode cX6_facesAt 47 = .ok (.aload_n 0, 1) := by decide +kernel
theorem dX6_facesAt_48 : decode cX6_facesAt 48 = .ok (.getfield 32, 3) := by decide +kernel
theorem dX6_facesAt_51 : decode cX6_facesAt 51 = .ok (.iload 4, 2) := by decide +kernel
theorem dX6_facesAt_53 : decode cX6_facesAt 53 = .ok (.iconst 2, 1) := by decide +kernel
theorem dX6_facesAt_54 : decode cX6_facesAt 54 = .ok (.idiv, 1) := by decide +kernel
theorem dX6_facesAt_55 : decode cX6_facesAt 55 = .ok (.iaload, 1) := by decide +kernel
theorem dX6_facesAt_56 : decode cX6_facesAt 56 = .ok (.iconst 1, 1) := by decide +kernel
theorem dX6_facesAt_57 : decode cX6_facesAt 57 = .ok (.invokevirtual 64, 3) := by decide +kernel
theorem dX6_facesAt_60 : decode cX6_facesAt 60 = .ok (.iconst 4, 1) := by decide +kernel
theorem dX6_facesAt_61 : decode cX6_facesAt 61 = .ok (.idiv, 1) := by decide +kernel
theorem dX6_facesAt_62 : decode cX6_facesAt 62 = .ok (.iaload, 1) := by decide +kernel
theorem dX6_facesAt_63 : decode cX6_facesAt 63 = .ok (.iload_n 1, 1) := by decide +kernel
theorem dX6_facesAt_64 : decode cX6_facesAt 64 = .ok (.if_icmp .ne 7, 3) := by decide +kernel
theorem dX6_facesAt_67 : decode cX6_facesAt 67 = .ok (.iconst 1, 1) := by decide +kernel
theorem dX6_facesAt_68 : decode cX6_facesAt 68 = .ok (.goto 4, 3) := by decide +kernel
theorem dX6_facesAt_71 : decode cX6_facesAt 71 = .ok (.iconst 0, 1) := by decide +kernel
theorem dX6_facesAt_72 : decode cX6_facesAt 72 = .ok (.iadd, 1) := by decide +kernel
theorem dX6_facesAt_73 : decode cX6_facesAt 73 = .ok (.istore_n 2, 1) := by decide +kernel
theorem dX6_facesAt_74 : decode cX6_facesAt 74 = .ok (.iload 5, 2) := by decide +kernel
theorem dX6_facesAt_76 : decode cX6_facesAt 76 = .ok (.ifCond .eq 13, 3) := by decide +kernel
theorem dX6_facesAt_79 : decode cX6_facesAt 79 = .ok (.aload_n 0, 1) := by decide +kernel
theorem dX6_facesAt_80 : decode cX6_facesAt 80 = .ok (.getfield 51, 3) := by decide +kernel
theorem dX6_facesAt_83 : decode cX6_facesAt 83 = .ok (.iload 4, 2) := by decide +kernel
theorem dX6_facesAt_85 : decode cX6_facesAt 85 = .ok (.iaload, 1) := by decide +kernel
theorem dX6_facesAt_86 : decode cX6_facesAt 86 = .ok (.goto 4, 3) := by decide +kernel
theorem dX6_facesAt_89 : decode cX6_facesAt 89 = .ok (.iload_n 3, 1) := by decide +kernel
theorem dX6_facesAt_90 : decode cX6_facesAt 90 = .ok (.istore_n 3, 1) := by decide +kernel
theorem dX6_facesAt_91 : decode cX6_facesAt 91 = .ok (.iinc 4 1, 3) := by decide +kernel
theorem dX6_facesAt_94 : decode cX6_facesAt 94 = .ok (.goto (-87), 3) := by decide +kernel
theorem dX6_facesAt_97 : decode cX6_facesAt 97 = .ok (.iload_n 2, 1) := by decide +kernel
theorem dX6_facesAt_98 : decode cX6_facesAt 98 = .ok (.ireturn, 1) := by decide +kernel
theorem dX6_crossing_0 : decode cX6_crossing 0 = .ok (.iload_n 2, 1) := by decide +kernel
theorem dX6_crossing_1 : decode cX6_crossing 1 = .ok (.ifCond .le 51, 3) := by decide +kernel
theorem dX6_crossing_4 : decode cX6_crossing 4 = .ok (.iload_n 3, 1) := by decide +kernel
theorem dX6_crossing_5 : decode cX6_crossing 5 = .ok (.ifCond .le 47, 3) := by decide +kernel
theorem dX6_crossing_8 : decode cX6_crossing 8 = .ok (.iload 4, 2) := by decide +kernel
theorem dX6_crossing_10 : decode cX6_crossing 10 = .ok (.ifCond .le 42, 3) := by decide +kernel
theorem dX6_crossing_13 : decode cX6_crossing 13 = .ok (.iload 5, 2) := by decide +kernel
theorem dX6_crossing_15 : decode cX6_crossing 15 = .ok (.ifCond .le 37, 3) := by decide +kernel
theorem dX6_crossing_18 : decode cX6_crossing 18 = .ok (.iload_n 2, 1) := by decide +kernel
theorem dX6_crossing_19 : decode cX6_crossing 19 = .ok (.sipush 10000, 3) := by decide +kernel
theorem dX6_crossing_22 : decode cX6_crossing 22 = .ok (.if_icmp .ge 30, 3) := by decide +kernel
theorem dX6_crossing_25 : decode cX6_crossing 25 = .ok (.iload_n 3, 1) := by decide +kernel
theorem dX6_crossing_26 : decode cX6_crossing 26 = .ok (.sipush 10000, 3) := by decide +kernel
theorem dX6_crossing_29 : decode cX6_crossing 29 = .ok (.if_icmp .ge 23, 3) := by decide +kernel
theorem dX6_crossing_32 : decode cX6_crossing 32 = .ok (.iload 4, 2) := by decide +kernel
theorem dX6_crossing_34 : decode cX6_crossing 34 = .ok (.sipush 10000, 3) := by decide +kernel
theorem dX6_crossing_37 : decode cX6_crossing 37 = .ok (.if_icmp .ge 15, 3) := by decide +kernel
theorem dX6_crossing_40 : decode cX6_crossing 40 = .ok (.iload 5, 2) := by decide +kernel
theorem dX6_crossing_42 : decode cX6_crossing 42 = .ok (.sipush 10000, 3) := by decide +kernel
theorem dX6_crossing_45 : decode cX6_crossing 45 = .ok (.if_icmp .ge 7, 3) := by decide +kernel
theorem dX6_crossing_48 : decode cX6_crossing 48 = .ok (.iconst 1, 1) := by decide +kernel
theorem dX6_crossing_49 : decode cX6_crossing 49 = .ok (.goto 4, 3) := by decide +kernel
theorem dX6_crossing_52 : decode cX6_crossing 52 = .ok (.iconst 0, 1) := by decide +kernel
theorem dX6_crossing_53 : decode cX6_crossing 53 = .ok (.istore 6, 2) := by decide +kernel
theorem dX6_crossing_55 : decode cX6_crossing 55 = .ok (.iload_n 1, 1) := by decide +kernel
theorem dX6_crossing_56 : decode cX6_crossing 56 = .ok (.iconst 1, 1) := by decide +kernel
theorem dX6_crossing_57 : decode cX6_crossing 57 = .ok (.if_icmp .eq 8, 3) := by decide +kernel
theorem dX6_crossing_60 : decode cX6_crossing 60 = .ok (.iload_n 1, 1) := by decide +kernel
theorem dX6_crossing_61 : decode cX6_crossing 61 = .ok (.iconst (-1), 1) := by decide +kernel
theorem dX6_crossing_62 : decode cX6_crossing 62 = .ok (.if_icmp .ne 17, 3) := by decide +kernel
theorem dX6_crossing_65 : decode cX6_crossing 65 = .ok (.iload 6, 2) := by decide +kernel
theorem dX6_crossing_67 : decode cX6_crossing 67 = .ok (.ifCond .eq 12, 3) := by decide +kernel
theorem dX6_crossing_70 : decode cX6_crossing 70 = .ok (.aload_n 0, 1) := by decide +kernel
theorem dX6_crossing_71 : decode cX6_crossing 71 = .ok (.getfield 99, 3) := by decide +kernel
theorem dX6_crossing_74 : decode cX6_crossing 74 = .ok (.bipush 20, 2) := by decide +kernel
