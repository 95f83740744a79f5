set_option maxRecDepth 20000 in
theorem ggX0_init_X4_init : GoodIn wsX0_init wsX4_init := goodIn_r _ [27, 28, 2, 3, 23, 29, 30, 31, 57, 58, 59] (by decide +kernel) (by decide +kernel)
set_option maxRecDepth 20000 in
theorem gX0_init_X4_init_n11 : GoodIn wsX0_init (wsX4_init) := ggX0_init_X4_init
set_option maxRecDepth 20000 in
theorem ggX0_init_X1_init : GoodIn wsX0_init wsX1_init := goodIn_r _ [33, 34, 2, 3, 23, 35, 36, 37, 38, 39, 40, 69, 70, 71, 72, 73, 74] (by decide +kernel) (by decide +kernel)
set_option maxRecDepth 20000 in
theorem gX0_init_X1_init_n20 : GoodIn wsX0_init (wsX1_init) := ggX0_init_X1_init
set_option maxRecDepth 20000 in
theorem ggX0_init_X2_init : GoodIn wsX0_init wsX2_init := goodIn_r _ [42, 43, 2, 3, 23, 44, 45, 46, 47, 75, 76, 77, 78] (by decide +kernel) (by decide +kernel)
set_option maxRecDepth 20000 in
theorem gX0_init_X2_init_n27 : GoodIn wsX0_init (wsX2_init) := ggX0_init_X2_init
set_option maxRecDepth 20000 in
theorem ggX0_init_X3_init : GoodIn wsX0_init wsX3_init := goodIn_r _ [49, 50, 2, 3, 23, 51, 52, 53, 54, 55, 56, 79, 80, 81, 82, 83, 84] (by decide +kernel) (by decide +kernel)
set_option maxRecDepth 20000 in
theorem gX0_init_X3_init_n37 : GoodIn wsX0_init (wsX3_init) := ggX0_init_X3_init
theorem dX0_init_0 : decode cX0_init 0 = .ok (.aload_n 0, 1) := by decide +kernel
theorem dX0_init_1 : decode cX0_init 1 = .ok (.invokespecial 3, 3) := by decide +kernel
theorem dX0_init_4 : decode cX0_init 4 = .ok (.aload_n 0, 1) := by decide +kernel
theorem dX0_init_5 : decode cX0_init 5 = .ok (.new 9, 3) := by decide +kernel
theorem dX0_init_8 : decode cX0_init 8 = .ok (.dup, 1) := by decide +kernel
theorem dX0_init_9 : decode cX0_init 9 = .ok (.invokespecial 11, 3) := by decide +kernel
theorem dX0_init_12 : decode cX0_init 12 = .ok (.putfield 12, 3) := by decide +kernel
theorem dX0_init_15 : decode cX0_init 15 = .ok (.aload_n 0, 1) := by decide +kernel
theorem dX0_init_16 : decode cX0_init 16 = .ok (.new 18, 3) := by decide +kernel
theorem dX0_init_19 : decode cX0_init 19 = .ok (.dup, 1) := by decide +kernel
theorem dX0_init_20 : decode cX0_init 20 = .ok (.invokespecial 20, 3) := by decide +kernel
theorem dX0_init_23 : decode cX0_init 23 = .ok (.putfield 21, 3) := by decide +kernel
theorem dX0_init_26 : decode cX0_init 26 = .ok (.aload_n 0, 1) := by decide +kernel
theorem dX0_init_27 : decode cX0_init 27 = .ok (.new 25, 3) := by decide +kernel
theorem dX0_init_30 : decode cX0_init 30 = .ok (.dup, 1) := by decide +kernel
theorem dX0_init_31 : decode cX0_init 31 = .ok (.invokespecial 27, 3) := by decide +kernel
theorem dX0_init_34 : decode cX0_init 34 = .ok (.putfield 28, 3) := by decide +kernel
theorem dX0_init_37 : decode cX0_init 37 = .ok (.aload_n 0, 1) := by decide +kernel
theorem dX0_init_38 : decode cX0_init 38 = .ok (.new 25, 3) := by decide +kernel
theorem dX0_init_41 : decode cX0_init 41 = .ok (.dup, 1) := by decide +kernel
theorem dX0_init_42 : decode cX0_init 42 = .ok (.invokespecial 27, 3) := by decide +kernel
theorem dX0_init_45 : decode cX0_init 45 = .ok (.putfield 32, 3) := by decide +kernel
theorem dX0_init_48 : decode cX0_init 48 = .ok (.aload_n 0, 1) := by decide +kernel
theorem dX0_init_49 : decode cX0_init 49 = .ok (.new 35, 3) := by decide +kernel
theorem dX0_init_52 : decode cX0_init 52 = .ok (.dup, 1) := by decide +kernel
theorem dX0_init_53 : decode cX0_init 53 = .ok (.invokespecial 37, 3) := by decide +kernel
theorem dX0_init_56 : decode cX0_init 56 = .ok (.putfield 38, 3) := by decide +kernel
theorem dX0_init_59 : decode cX0_init 59 = .ok (.aload_n 0, 1) := by decide +kernel
theorem dX0_init_60 : decode cX0_init 60 = .ok (.new 35, 3) := by decide +kernel
theorem dX0_init_63 : decode cX0_init 63 = .ok (.dup, 1) := by decide +kernel
theorem dX0_init_64 : decode cX0_init 64 = .ok (.invokespecial 37, 3) := by decide +kernel
theorem dX0_init_67 : decode cX0_init 67 = .ok (.putfield 42, 3) := by decide +kernel
theorem dX0_init_70 : decode cX0_init 70 = .ok (.aload_n 0, 1) := by decide +kernel
theorem dX0_init_71 : decode cX0_init 71 = .ok (.new 35, 3) := by decide +kernel
theorem dX0_init_74 : decode cX0_init 74 = .ok (.dup, 1) := by decide +kernel
theorem dX0_init_75 : decode cX0_init 75 = .ok (.invokespecial 37, 3) := by decide +kernel
theorem dX0_init_78 : decode cX0_init 78 = .ok (.putfield 45, 3) := by decide +kernel
theorem dX0_init_81 : decode cX0_init 81 = .ok (.aload_n 0, 1) := by decide +kernel
theorem dX0_init_82 : decode cX0_init 82 = .ok (.bipush 40, 2) := by decide +kernel
theorem dX0_init_84 : decode cX0_init 84 = .ok (.newarray .int, 2) := by decide +kernel
theorem dX0_init_86 : decode cX0_init 86 = .ok (.putfield 48, 3) := by decide +kernel
theorem dX0_init_89 : decode cX0_init 89 = .ok (.aload_n 0, 1) := by decide +kernel
theorem dX0_init_90 : decode cX0_init 90 = .ok (.iconst (-1), 1) := by decide +kernel
theorem dX0_init_91 : decode cX0_init 91 = .ok (.putfield 52, 3) := by decide +kernel
theorem dX0_init_94 : decode cX0_init 94 = .ok (.return_, 1) := by decide +kernel
theorem dX0_wrong_0 : decode cX0_wrong 0 = .ok (.aload_n 0, 1) := by decide +kernel
theorem dX0_wrong_1 : decode cX0_wrong 1 = .ok (.getfield 52, 3) := by decide +kernel
theorem dX0_wrong_4 : decode cX0_wrong 4 = .ok (.ireturn, 1) := by decide +kernel
set_option maxRecDepth 20000 in
theorem ggX0_survey_X1_gatherLabels : GoodIn wsX0_survey wsX1_gatherLabels := goodIn_r _ [8, 9, 10, 11, 12, 13, 14, 15, 16, 17, 18, 19, 20, 21, 22, 23, 24, 25, 26, 7, 27, 28, 29, 30, 31, 32, 33, 34, 35, 241, 242, 243, 244, 245, 246, 247, 248, 249] (by decide +kernel) (by decide +kernel)
set_option maxRecDepth 20000 in
theorem gX0_survey_X1_gatherLabels : GoodIn wsX0_survey (wsV RX0 56 RX1 yX1_gatherLabels wsX1_gatherLabels) := goodIn_app (goodIn_of _ (by decide +kernel)) ggX0_survey_X1_gatherLabels
set_option maxRecDepth 20000 in
theorem ggX0_survey_X1_findEnds : GoodIn wsX0_survey wsX1_findEnds := goodIn_r _ [39, 40, 41, 9, 11, 42, 43, 44, 45, 12, 13, 14, 15, 16, 17, 18, 19, 20, 21, 22, 23, 46, 47, 48, 7, 49, 28, 29, 30, 31, 32, 33, 34, 35, 50, 51, 52, 53, 54, 55, 56, 57, 58, 59, 60, 61, 62, 63, 64, 65, 66, 67, 68, 69, 70, 71, 72, 73, 74, 241, 242, 243, 244, 245, 246, 247, 248, 249] (by decide +kernel) (by decide +kernel)
set_option maxRecDepth 20000 in
theorem gX0_survey_X1_findEnds : GoodIn wsX0_survey (wsV RX0 60 RX1 yX1_findEnds wsX1_findEnds) := goodIn_app (goodIn_of _ (by decide +kernel)) ggX0_survey_X1_findEnds
set_option maxRecDepth 20000 in
theorem ggX0_survey_X0_groupPieces : GoodIn wsX0_survey wsX0_groupPieces := goodIn_r _ [79, 80, 2, 1, 81, 82, 83, 15, 84, 17, 85, 86, 87, 88, 89, 90, 91, 92, 93, 94, 95, 96, 97, 98, 7, 99, 9, 100, 101, 102, 103, 40, 32, 33, 34, 35, 104, 105, 106, 107, 41, 108, 109, 110, 111, 112, 113, 114, 115, 116, 117, 118, 119, 120, 121, 122, 123, 124, 125, 126, 127, 128, 129, 130, 131, 132, 232, 233, 234, 235, 236, 237, 238, 239, 240, 247, 248, 249, 250, 251, 252, 253, 241, 242, 243, 244, 245, 246] (by decide +kernel) (by decide +kernel)
set_option maxRecDepth 20000 in
theorem gX0_survey_X0_groupPieces : GoodIn wsX0_survey (wsV RX0 63 RX0 yX0_groupPieces wsX0_groupPieces) := goodIn_app (goodIn_of _ (by decide +kernel)) ggX0_survey_X0_groupPieces
set_option maxRecDepth 20000 in
theorem ggX0_survey_X0_traceFaces : GoodIn wsX0_survey wsX0_traceFaces := goodIn_r _ [136, 137, 1, 96, 97, 98, 7, 99, 9, 138, 139, 140, 141, 142, 143, 91, 92, 93, 144, 145, 104, 105, 106, 107, 41, 32, 33, 34, 35, 146, 147, 15, 148, 149, 150, 151, 152, 153, 154, 155, 156, 74, 157, 101, 102, 103, 40, 158, 159, 160, 161, 162, 163, 164, 165, 166, 100, 167, 168, 169, 170, 171, 172, 43, 44, 45, 173, 174, 175, 176, 177, 178, 232, 233, 234, 235, 236, 237, 238, 239, 240, 241, 242, 243, 244, 245, 246, 254, 255, 256, 257, 258, 259] (by decide +kernel) (by decide +kernel)
set_option maxRecDepth 20000 in
theorem gX0_survey_X0_traceFaces : GoodIn wsX0_survey (wsV RX0 66 RX0 yX0_traceFaces wsX0_traceFaces) := goodIn_app (goodIn_of _ (by decide +kernel)) ggX0_survey_X0_traceFaces
set_option maxRecDepth 20000 in
theorem ggX0_survey_X0_leastCrossingOnNoSphere : GoodIn wsX0_survey wsX0_leastCrossingOnNoSphere := goodIn_r _ [182, 2, 80, 81, 82, 83, 15, 84, 17, 183, 116, 117, 88, 118, 95, 119, 120, 121, 122, 94, 184, 130, 131, 132, 128, 185, 186, 187, 78, 188, 137, 189, 190, 191, 141, 192, 145, 193, 194, 195, 196, 177, 197, 198, 199, 200, 201, 202, 203, 204, 1, 104, 105, 106, 7, 107, 41, 32, 33, 34, 35, 9, 232, 233, 234, 235, 236, 237, 238, 239, 240, 247, 248, 249, 250, 251, 252, 253, 254, 255, 256, 257, 258, 259, 241, 242, 243, 244, 245, 246] (by decide +kernel) (by decide +kernel)
set_option maxRecDepth 20000 in
theorem gX0_survey_X0_leastCrossingOnNoSphere : GoodIn wsX0_survey (wsV RX0 69 RX0 yX0_leastCrossingOnNoSphere wsX0_leastCrossingOnNoSphere) := goodIn_app (goodIn_of _ (by decide +kernel)) ggX0_survey_X0_leastCrossingOnNoSphere
set_option maxRecDepth 20000 in
theorem ggX0_survey_X0_traceStrands : GoodIn wsX0_survey wsX0_traceStrands := goodIn_r _ [208, 209, 1, 210, 2, 96, 97, 98, 7, 99, 9, 138, 139, 140, 141, 142, 143, 91, 92, 93, 144, 145, 104, 105, 106, 107, 41, 32, 33, 34, 35, 211, 212, 15, 213, 214, 154, 155, 156, 74, 158, 159, 160, 161, 162, 163, 164, 165, 166, 215, 216, 217, 218, 219, 220, 221, 54, 55, 56, 57, 58, 59, 60, 61, 62, 63, 64, 65, 66, 67, 68, 69, 17, 167, 168, 169, 170, 171, 172, 43, 44, 45, 173, 174, 175, 176, 177, 178, 232, 233, 234, 235, 236, 237, 238, 239, 240, 241, 242, 243, 244, 245, 246, 254, 255, 256, 257, 258, 259, 247, 248, 249] (by decide +kernel) (by decide +kernel)
set_option maxRecDepth 20000 in
theorem gX0_survey_X0_traceStrands : GoodIn wsX0_survey (wsV RX0 73 RX0 yX0_traceStrands wsX0_traceStrands) := goodIn_app (goodIn_of _ (by decide +kernel)) ggX0_survey_X0_traceStrands
set_option maxRecDepth 20000 in
theorem ggX0_survey_X0_groupArcs : GoodIn wsX0_survey wsX0_groupArcs := goodIn_r _ [225, 226, 1, 209, 96, 97, 98, 7, 99, 9, 85, 86, 87, 88, 89, 90, 91, 92, 93, 94, 95, 104, 105, 106, 107, 41, 32, 33, 34, 35, 227, 220, 15, 221, 228, 229, 230, 141, 231, 162, 163, 164, 165, 166, 144, 108, 109, 110, 111, 112, 113, 114, 115, 116, 117, 118, 119, 120, 121, 122, 123, 124, 125, 126, 127, 128, 129, 130, 131, 132, 232, 233, 234, 235, 236, 237, 238, 239, 240, 241, 242, 243, 244, 245, 246, 250, 251, 252, 253, 254, 255, 256, 257, 258, 259] (by decide +kernel) (by decide +kernel)
set_option maxRecDepth 20000 in
theorem gX0_survey_X0_groupArcs : GoodIn wsX0_survey (wsV RX0 76 RX0 yX0_groupArcs wsX0_groupArcs) := goodIn_app (goodIn_of _ (by decide +kernel)) ggX0_survey_X0_groupArcs
theorem dX0_survey_0 : decode cX0_survey 0 = .ok (.aload_n 0, 1) := by decide +kernel
theorem dX0_survey_1 : decode cX0_survey 1 = .ok (.aload_n 0, 1) := by decide +kernel
theorem dX0_survey_2 : decode cX0_survey 2 = .ok (.getfield 21, 3) := by decide +kernel
theorem dX0_survey_5 : decode cX0_survey 5 = .ok (.aload_n 0, 1) := by decide +kernel
theorem dX0_survey_6 : decode cX0_survey 6 = .ok (.getfield 12, 3) := by decide +kernel
theorem dX0_survey_9 : decode cX0_survey 9 = .ok (.invokevirtual 56, 3) := by decide +kernel
theorem dX0_survey_12 : decode cX0_survey 12 = .ok (.putfield 52, 3) := by decide +kernel
theorem dX0_survey_15 : decode cX0_survey 15 = .ok (.aload_n 0, 1) := by decide +kernel
theorem dX0_survey_16 : decode cX0_survey 16 = .ok (.getfield 52, 3) := by decide +kernel
theorem dX0_survey_19 : decode cX0_survey 19 = .ok (.iconst (-1), 1) := by decide +kernel
theorem dX0_survey_20 : decode cX0_survey 20 = .ok (.if_icmp .eq 5, 3) := by decide +kernel
theorem dX0_survey_23 : decode cX0_survey 23 = .ok (.iconst 1, 1) := by decide +kernel
theorem dX0_survey_24 : decode cX0_survey 24 = .ok (.ireturn, 1) := by decide +kernel
theorem dX0_survey_25 : decode cX0_survey 25 = .ok (.aload_n 0, 1) := by decide +kernel
theorem dX0_survey_26 : decode cX0_survey 26 = .ok (.aload_n 0, 1) := by decide +kernel
theorem dX0_survey_27 : decode cX0_survey 27 = .ok (.getfield 21, 3) := by decide +kernel
theorem dX0_survey_30 : decode cX0_survey 30 = .ok (.aload_n 0, 1) := by decide +kernel
theorem dX0_survey_31 : decode cX0_survey 31 = .ok (.getfield 12, 3) := by decide +kernel
theorem dX0_survey_34 : decode cX0_survey 34 = .ok (.invokevirtual 60, 3) := by decide +kernel
theorem dX0_survey_37 : decode cX0_survey 37 = .ok (.putfield 52, 3) := by decide +kernel
theorem dX0_survey_40 : decode cX0_survey 40 = .ok (.aload_n 0, 1) := by decide +kernel
theorem dX0_survey_41 : decode cX0_survey 41 = .ok (.getfield 52, 3) := by decide +kernel
theorem dX0_survey_44 : decode cX0_survey 44 = .ok (.iconst (-1), 1) := by decide +kernel
theorem dX0_survey_45 : decode cX0_survey 45 = .ok (.if_icmp .eq 5, 3) := by decide +kernel
theorem dX0_survey_48 : decode cX0_survey 48 = .ok (.iconst 2, 1) := by decide +kernel
theorem dX0_survey_49 : decode cX0_survey 49 = .ok (.ireturn, 1) := by decide +kernel
theorem dX0_survey_50 : decode cX0_survey 50 = .ok (.aload_n 0, 1) := by decide +kernel
theorem dX0_survey_51 : decode cX0_survey 51 = .ok (.invokevirtual 63, 3) := by decide +kernel
theorem dX0_survey_54 : decode cX0_survey 54 = .ok (.aload_n 0, 1) := by decide +kernel
theorem dX0_survey_55 : decode cX0_survey 55 = .ok (.invokevirtual 66, 3) := by decide +kernel
theorem dX0_survey_58 : decode cX0_survey 58 = .ok (.aload_n 0, 1) := by decide +kernel
theorem dX0_survey_59 : decode cX0_survey 59 = .ok (.aload_n 0, 1) := by decide +kernel
theorem dX0_survey_60 : decode cX0_survey 60 = .ok (.invokevirtual 69, 3) := by decide +kernel
theorem dX0_survey_63 : decode cX0_survey 63 = .ok (.putfield 52, 3) := by decide +kernel
theorem dX0_survey_66 : decode cX0_survey 66 = .ok (.aload_n 0, 1) := by decide +kernel
theorem dX0_survey_67 : decode cX0_survey 67 = .ok (.getfield 52, 3) := by decide +kernel
theorem dX0_survey_70 : decode cX0_survey 70 = .ok (.iconst (-1), 1) := by decide +kernel
theorem dX0_survey_71 : decode cX0_survey 71 = .ok (.if_icmp .eq 5, 3) := by decide +kernel
theorem dX0_survey_74 : decode cX0_survey 74 = .ok (.iconst 3, 1) := by decide +kernel
theorem dX0_survey_75 : decode cX0_survey 75 = .ok (.ireturn, 1) := by decide +kernel
theorem dX0_survey_76 : decode cX0_survey 76 = .ok (.aload_n 0, 1) := by decide +kernel
theorem dX0_survey_77 : decode cX0_survey 77 = .ok (.invokevirtual 73, 3) := by decide +kernel
theorem dX0_survey_80 : decode cX0_survey 80 = .ok (.aload_n 0, 1) := by decide +kernel
theorem dX0_survey_81 : decode cX0_survey 81 = .ok (.invokevirtual 76, 3) := by decide +kernel
theorem dX0_survey_84 : decode cX0_survey 84 = .ok (.iconst 0, 1) := by decide +kernel
theorem dX0_survey_85 : decode cX0_survey 85 = .ok (.ireturn, 1) := by decide +kernel
set_option maxRecDepth 20000 in
theorem ggX0_groupPieces_X4_crossings : GoodIn wsX0_groupPieces wsX4_crossings := goodIn_r _ [8, 9, 75, 76, 77] (by decide +kernel) (by decide +kernel)
set_option maxRecDepth 20000 in
theorem gX0_groupPieces_X4_crossings : GoodIn wsX0_groupPieces (wsV RX0 79 RX4 yX4_crossings wsX4_crossings) := goodIn_app (goodIn_of _ (by decide +kernel)) ggX0_groupPieces_X4_crossings
set_option maxRecDepth 20000 in
theorem ggX0_groupPieces_X2_begin : GoodIn wsX0_groupPieces wsX2_begin := goodIn_r _ [14, 15, 16, 17, 18, 19, 20, 78, 79, 80, 81] (by decide +kernel) (by decide +kernel)
set_option maxRecDepth 20000 in
theorem gX0_groupPieces_X2_begin : GoodIn wsX0_groupPieces (wsV RX0 82 RX2 yX2_begin wsX2_begin) := goodIn_app (goodIn_of _ (by decide +kernel)) ggX0_groupPieces_X2_begin
set_option maxRecDepth 20000 in
theorem ggX0_groupPieces_X1_count : GoodIn wsX0_groupPieces wsX1_count := goodIn_r _ [25, 26, 82, 83, 84, 85, 86, 87] (by decide +kernel) (by decide +kernel)
set_option maxRecDepth 20000 in
theorem gX0_groupPieces_X1_count : GoodIn wsX0_groupPieces (wsV RX0 86 RX1 yX1_count wsX1_count) := goodIn_app (goodIn_of _ (by decide +kernel)) ggX0_groupPieces_X1_count
set_option maxRecDepth 20000 in
theorem ggX0_groupPieces_X1_from : GoodIn wsX0_groupPieces wsX1_from := goodIn_r _ [30, 31, 32, 33, 34, 24, 35, 26, 82, 83, 84, 85, 86, 87] (by decide +kernel) (by decide +kernel)
set_option maxRecDepth 20000 in
theorem gX0_groupPieces_X1_from : GoodIn wsX0_groupPieces (wsV RX0 89 RX1 yX1_from wsX1_from) := goodIn_app (goodIn_of _ (by decide +kernel)) ggX0_groupPieces_X1_from
set_option maxRecDepth 20000 in
theorem ggX0_groupPieces_X1_to : GoodIn wsX0_groupPieces wsX1_to := goodIn_r _ [39, 40, 32, 33, 34, 24, 35, 26, 82, 83, 84, 85, 86, 87] (by decide +kernel) (by decide +kernel)
set_option maxRecDepth 20000 in
theorem gX0_groupPieces_X1_to : GoodIn wsX0_groupPieces (wsV RX0 93 RX1 yX1_to wsX1_to) := goodIn_app (goodIn_of _ (by decide +kernel)) ggX0_groupPieces_X1_to
set_option maxRecDepth 20000 in
theorem ggX0_groupPieces_X2_join : GoodIn wsX0_groupPieces wsX2_join := goodIn_r _ [44, 15, 16, 17, 18, 45, 46, 47, 19, 20, 48, 49, 50, 13, 51, 52, 53, 54, 55, 78, 79, 80, 81] (by decide +kernel) (by decide +kernel)
set_option maxRecDepth 20000 in
theorem gX0_groupPieces_X2_join : GoodIn wsX0_groupPieces (wsV RX0 96 RX2 yX2_join wsX2_join) := goodIn_app (goodIn_of _ (by decide +kernel)) ggX0_groupPieces_X2_join
set_option maxRecDepth 20000 in
theorem ggX0_groupPieces_X2_numberGroups : GoodIn wsX0_groupPieces wsX2_numberGroups := goodIn_r _ [59, 60, 19, 20, 61, 62, 63, 64, 13, 65, 52, 53, 54, 55, 78, 79, 80, 81] (by decide +kernel) (by decide +kernel)
set_option maxRecDepth 20000 in
theorem gX0_groupPieces_X2_numberGroups : GoodIn wsX0_groupPieces (wsV RX0 100 RX2 yX2_numberGroups wsX2_numberGroups) := goodIn_app (goodIn_of _ (by decide +kernel)) ggX0_groupPieces_X2_numberGroups
theorem dX0_groupPieces_0 : decode cX0_groupPieces 0 = .ok (.aload_n 0, 1) := by decide +kernel
theorem dX0_groupPieces_1 : decode cX0_groupPieces 1 = .ok (.getfield 28, 3) := by decide +kernel
theorem dX0_groupPieces_4 : decode cX0_groupPieces 4 = .ok (.aload_n 0, 1) := by decide +kernel
theorem dX0_groupPieces_5 : decode cX0_groupPieces 5 = .ok (.getfield 12, 3) := by decide +kernel
theorem dX0_groupPieces_8 : decode cX0_groupPieces 8 = .ok (.invokevirtual 79, 3) := by decide +kernel
theorem dX0_groupPieces_11 : decode cX0_groupPieces 11 = .ok (.invokevirtual 82, 3) := by decide +kernel
theorem dX0_groupPieces_14 : decode cX0_groupPieces 14 = .ok (.iconst 0, 1) := by decide +kernel
theorem dX0_groupPieces_15 : decode cX0_groupPieces 15 = .ok (.istore_n 1, 1) := by decide +kernel
theorem dX0_groupPieces_16 : decode cX0_groupPieces 16 = .ok (.iload_n 1, 1) := by decide +kernel
theorem dX0_groupPieces_17 : decode cX0_groupPieces 17 = .ok (.aload_n 0, 1) := by decide +kernel
theorem dX0_groupPieces_18 : decode cX0_groupPieces 18 = .ok (.getfield 21, 3) := by decide +kernel
theorem dX0_groupPieces_21 : decode cX0_groupPieces 21 = .ok (.invokevirtual 86, 3) := by decide +kernel
theorem dX0_groupPieces_24 : decode cX0_groupPieces 24 = .ok (.if_icmp .ge 36, 3) := by decide +kernel
theorem dX0_groupPieces_27 : decode cX0_groupPieces 27 = .ok (.aload_n 0, 1) := by decide +kernel
theorem dX0_groupPieces_28 : decode cX0_groupPieces 28 = .ok (.getfield 28, 3) := by decide +kernel
theorem dX0_groupPieces_31 : decode cX0_groupPieces 31 = .ok (.aload_n 0, 1) := by decide +kernel
theorem dX0_groupPieces_32 : decode cX0_groupPieces 32 = .ok (.getfield 21, 3) := by decide +kernel
theorem dX0_groupPieces_35 : decode cX0_groupPieces 35 = .ok (.iload_n 1, 1) := by decide +kernel
theorem dX0_groupPieces_36 : decode cX0_groupPieces 36 = .ok (.invokevirtual 89, 3) := by decide +kernel
theorem dX0_groupPieces_39 : decode cX0_groupPieces 39 = .ok (.iconst 4, 1) := by decide +kernel
theorem dX0_groupPieces_40 : decode cX0_groupPieces 40 = .ok (.idiv, 1) := by decide +kernel
theorem dX0_groupPieces_41 : decode cX0_groupPieces 41 = .ok (.aload_n 0, 1) := by decide +kernel
theorem dX0_groupPieces_42 : decode cX0_groupPieces 42 = .ok (.getfield 21, 3) := by decide +kernel
theorem dX0_groupPieces_45 : decode cX0_groupPieces 45 = .ok (.iload_n 1, 1) := by decide +kernel
theorem dX0_groupPieces_46 : decode cX0_groupPieces 46 = .ok (.invokevirtual 93, 3) := by decide +kernel
theorem dX0_groupPieces_49 : decode cX0_groupPieces 49 = .ok (.iconst 4, 1) := by decide +kernel
theorem dX0_groupPieces_50 : decode cX0_groupPieces 50 = .ok (.idiv, 1) := by decide +kernel
theorem dX0_groupPieces_51 : decode cX0_groupPieces 51 = .ok (.invokevirtual 96, 3) := by decide +kernel
theorem dX0_groupPieces_54 : decode cX0_groupPieces 54 = .ok (.iinc 1 1, 3) := by decide +kernel
theorem dX0_groupPieces_57 : decode cX0_groupPieces 57 = .ok (.goto (-41), 3) := by decide +kernel
theorem dX0_groupPieces_60 : decode cX0_groupPieces 60 = .ok (.aload_n 0, 1) := by decide +kernel
theorem dX0_groupPieces_61 : decode cX0_groupPieces 61 = .ok (.getfield 28, 3) := by decide +kernel
theorem dX0_groupPieces_64 : decode cX0_groupPieces 64 = .ok (.invokevirtual 100, 3) := by decide +kernel
theorem dX0_groupPieces_67 : decode cX0_groupPieces 67 = .ok (.return_, 1) := by decide +kernel
set_option maxRecDepth 20000 in
theorem ggX0_traceFaces_X1_count : GoodIn wsX0_traceFaces wsX1_count := goodIn_r _ [7, 8, 81, 82, 83, 84, 85, 86] (by decide +kernel) (by decide +kernel)
set_option maxRecDepth 20000 in
theorem gX0_traceFaces_X1_count : GoodIn wsX0_traceFaces (wsV RX0 86 RX1 yX1_count wsX1_count) := goodIn_app (goodIn_of _ (by decide +kernel)) ggX0_traceFaces_X1_count
set_option maxRecDepth 20000 in
theorem ggX0_traceFaces_X3_begin : GoodIn wsX0_traceFaces wsX3_begin := goodIn_r _ [13, 14, 15, 16, 17, 18, 19, 87, 88, 89, 90, 91, 92] (by decide +kernel) (by decide +kernel)
set_option maxRecDepth 20000 in
theorem gX0_traceFaces_X3_begin : GoodIn wsX0_traceFaces (wsV RX0 103 RX3 yX3_begin wsX3_begin) := goodIn_app (goodIn_of _ (by decide +kernel)) ggX0_traceFaces_X3_begin
set_option maxRecDepth 20000 in
theorem ggX0_traceFaces_X1_to : GoodIn wsX0_traceFaces wsX1_to := goodIn_r _ [23, 24, 25, 26, 27, 6, 28, 8, 81, 82, 83, 84, 85, 86] (by decide +kernel) (by decide +kernel)
set_option maxRecDepth 20000 in
theorem gX0_traceFaces_X1_to : GoodIn wsX0_traceFaces (wsV RX0 93 RX1 yX1_to wsX1_to) := goodIn_app (goodIn_of _ (by decide +kernel)) ggX0_traceFaces_X1_to
set_option maxRecDepth 20000 in
theorem ggX0_traceFaces_X4_beside : GoodIn wsX0_traceFaces wsX4_beside := goodIn_r _ [32] (by decide +kernel) (by decide +kernel)
set_option maxRecDepth 20000 in
theorem gX0_traceFaces_X4_beside : GoodIn wsX0_traceFaces (va_wsS RX0 104 yX4_beside wsX4_beside) := goodIn_app (goodIn_of _ (by decide +kernel)) ggX0_traceFaces_X4_beside
set_option maxRecDepth 20000 in
theorem ggX0_traceFaces_X1_dartFrom : GoodIn wsX0_traceFaces wsX1_dartFrom := goodIn_r _ [36, 37, 38, 39, 6, 40, 41, 42, 43, 44, 45, 46, 25, 26, 27, 28, 8, 81, 82, 83, 84, 85, 86] (by decide +kernel) (by decide +kernel)
set_option maxRecDepth 20000 in
theorem gX0_traceFaces_X1_dartFrom : GoodIn wsX0_traceFaces (wsV RX0 107 RX1 yX1_dartFrom wsX1_dartFrom) := goodIn_app (goodIn_of _ (by decide +kernel)) ggX0_traceFaces_X1_dartFrom
set_option maxRecDepth 20000 in
theorem ggX0_traceFaces_X3_link : GoodIn wsX0_traceFaces wsX3_link := goodIn_r _ [50, 51, 52, 53, 54, 12, 55, 18, 87, 88, 89, 90, 91, 92] (by decide +kernel) (by decide +kernel)
set_option maxRecDepth 20000 in
theorem gX0_traceFaces_X3_link : GoodIn wsX0_traceFaces (wsV RX0 110 RX3 yX3_link wsX3_link) := goodIn_app (goodIn_of _ (by decide +kernel)) ggX0_traceFaces_X3_link
set_option maxRecDepth 20000 in
theorem ggX0_traceFaces_X1_from : GoodIn wsX0_traceFaces wsX1_from := goodIn_r _ [45, 46, 25, 26, 27, 6, 28, 8, 81, 82, 83, 84, 85, 86] (by decide +kernel) (by decide +kernel)
set_option maxRecDepth 20000 in
theorem gX0_traceFaces_X1_from : GoodIn wsX0_traceFaces (wsV RX0 89 RX1 yX1_from wsX1_from) := goodIn_app (goodIn_of _ (by decide +kernel)) ggX0_traceFaces_X1_from
set_option maxRecDepth 20000 in
theorem ggX0_traceFaces_X3_trace : GoodIn wsX0_traceFaces wsX3_trace := goodIn_r _ [60, 61, 18, 62, 63, 64, 65, 66, 67, 68, 12, 69, 19, 51, 70, 71, 52, 53, 54, 55, 87, 88, 89, 90, 91, 92] (by decide +kernel) (by decide +kernel)
set_option maxRecDepth 20000 in
theorem gX0_traceFaces_X3_trace : GoodIn wsX0_traceFaces (wsV RX0 113 RX3 yX3_trace wsX3_trace) := goodIn_app (goodIn_of _ (by decide +kernel)) ggX0_traceFaces_X3_trace
theorem dX0_traceFaces_0 : decode cX0_traceFaces 0 = .ok (.aload_n 0, 1) := by decide +kernel
theorem dX0_traceFaces_1 : decode cX0_traceFaces 1 = .ok (.getfield 45, 3) := by decide +kernel
theorem dX0_traceFaces_4 : decode cX0_traceFaces 4 = .ok (.iconst 2, 1) := by decide +kernel
theorem dX0_traceFaces_5 : decode cX0_traceFaces 5 = .ok (.aload_n 0, 1) := by decide +kernel
theorem dX0_traceFaces_6 : decode cX0_traceFaces 6 = .ok (.getfield 21, 3) := by decide +kernel
theorem dX0_traceFaces_9 : decode cX0_traceFaces 9 = .ok (.invokevirtual 86, 3) := by decide +kernel
theorem dX0_traceFaces_12 : decode cX0_traceFaces 12 = .ok (.imul, 1) := by decide +kernel
theorem dX0_traceFaces_13 : decode cX0_traceFaces 13 = .ok (.invokevirtual 103, 3) := by decide +kernel
theorem dX0_traceFaces_16 : decode cX0_traceFaces 16 = .ok (.iconst 0, 1) := by decide +kernel
theorem dX0_traceFaces_17 : decode cX0_traceFaces 17 = .ok (.istore_n 1, 1) := by decide +kernel
theorem dX0_traceFaces_18 : decode cX0_traceFaces 18 = .ok (.iload_n 1, 1) := by decide +kernel
theorem dX0_traceFaces_19 : decode cX0_traceFaces 19 = .ok (.aload_n 0, 1) := by decide +kernel
theorem dX0_traceFaces_20 : decode cX0_traceFaces 20 = .ok (.getfield 21, 3) := by decide +kernel
theorem dX0_traceFaces_23 : decode cX0_traceFaces 23 = .ok (.invokevirtual 86, 3) := by decide +kernel
theorem dX0_traceFaces_26 : decode cX0_traceFaces 26 = .ok (.if_icmp .ge 67, 3) := by decide +kernel
theorem dX0_traceFaces_29 : decode cX0_traceFaces 29 = .ok (.aload_n 0, 1) := by decide +kernel
theorem dX0_traceFaces_30 : decode cX0_traceFaces 30 = .ok (.getfield 45, 3) := by decide +kernel
theorem dX0_traceFaces_33 : decode cX0_traceFaces 33 = .ok (.iconst 2, 1) := by decide +kernel
theorem dX0_traceFaces_34 : decode cX0_traceFaces 34 = .ok (.iload_n 1, 1) := by decide +kernel
theorem dX0_traceFaces_35 : decode cX0_traceFaces 35 = .ok (.imul, 1) := by decide +kernel
theorem dX0_traceFaces_36 : decode cX0_traceFaces 36 = .ok (.aload_n 0, 1) := by decide +kernel
theorem dX0_traceFaces_37 : decode cX0_traceFaces 37 = .ok (.getfield 21, 3) := by decide +kernel
theorem dX0_traceFaces_40 : decode cX0_traceFaces 40 = .ok (.aload_n 0, 1) := by decide +kernel
theorem dX0_traceFaces_41 : decode cX0_traceFaces 41 = .ok (.getfield 21, 3) := by decide +kernel
theorem dX0_traceFaces_44 : decode cX0_traceFaces 44 = .ok (.iload_n 1, 1) := by decide +kernel
theorem dX0_traceFaces_45 : decode cX0_traceFaces 45 = .ok (.invokevirtual 93, 3) := by decide +kernel
theorem dX0_traceFaces_48 : decode cX0_traceFaces 48 = .ok (.invokestatic 104, 3) := by decide +kernel
theorem dX0_traceFaces_51 : decode cX0_traceFaces 51 = .ok (.invokevirtual 107, 3) := by decide +kernel
theorem dX0_traceFaces_54 : decode cX0_traceFaces 54 = .ok (.invokevirtual 110, 3) := by decide +kernel
theorem dX0_traceFaces_57 : decode cX0_traceFaces 57 = .ok (.aload_n 0, 1) := by decide +kernel
theorem dX0_traceFaces_58 : decode cX0_traceFaces 58 = .ok (.getfield 45, 3) := by decide +kernel
theorem dX0_traceFaces_61 : decode cX0_traceFaces 61 = .ok (.iconst 2, 1) := by decide +kernel
theorem dX0_traceFaces_62 : decode cX0_traceFaces 62 = .ok (.iload_n 1, 1) := by decide +kernel
theorem dX0_traceFaces_63 : decode cX0_traceFaces 63 = .ok (.imul, 1) := by decide +kernel
theorem dX0_traceFaces_64 : decode cX0_traceFaces 64 = .ok (.iconst 1, 1) := by decide +kernel
theorem dX0_traceFaces_65 : decode cX0_traceFaces 65 = .ok (.iadd, 1) := by decide +kernel
theorem dX0_traceFaces_66 : decode cX0_traceFaces 66 = .ok (.aload_n 0, 1) := by decide +kernel
theorem dX0_traceFaces_67 : decode cX0_traceFaces 67 = .ok (.getfield 21, 3) := by decide +kernel
theorem dX0_traceFaces_70 : decode cX0_traceFaces 70 = .ok (.aload_n 0, 1) := by decide +kernel
theorem dX0_traceFaces_71 : decode cX0_traceFaces 71 = .ok (.getfield 21, 3) := by decide +kernel
theorem dX0_traceFaces_74 : decode cX0_traceFaces 74 = .ok (.iload_n 1, 1) := by decide +kernel
theorem dX0_traceFaces_75 : decode cX0_traceFaces 75 = .ok (.invokevirtual 89, 3) := by decide +kernel
theorem dX0_traceFaces_78 : decode cX0_traceFaces 78 = .ok (.invokestatic 104, 3) := by decide +kernel
theorem dX0_traceFaces_81 : decode cX0_traceFaces 81 = .ok (.invokevirtual 107, 3) := by decide +kernel
theorem dX0_traceFaces_84 : decode cX0_traceFaces 84 = .ok (.invokevirtual 110, 3) := by decide +kernel
theorem dX0_traceFaces_87 : decode cX0_traceFaces 87 = .ok (.iinc 1 1, 3) := by decide +kernel
theorem dX0_traceFaces_90 : decode cX0_traceFaces 90 = .ok (.goto (-72), 3) := by decide +kernel
theorem dX0_traceFaces_93 : decode cX0_traceFaces 93 = .ok (.aload_n 0, 1) := by decide +kernel
theorem dX0_traceFaces_94 : decode cX0_traceFaces 94 = .ok (.getfield 45, 3) := by decide +kernel
theorem dX0_traceFaces_97 : decode cX0_traceFaces 97 = .ok (.invokevirtual 113, 3) := by decide +kernel
theorem dX0_traceFaces_100 : decode cX0_traceFaces 100 = .ok (.return_, 1) := by decide +kernel
set_option maxRecDepth 20000 in
theorem ggX0_leastCrossingOnNoSphere_X4_crossings : GoodIn wsX0_leastCrossingOnNoSphere wsX4_crossings := goodIn_r _ [7, 8, 71, 72, 73] (by decide +kernel) (by decide +kernel)
set_option maxRecDepth 20000 in
theorem gX0_leastCrossingOnNoSphere_X4_crossings : GoodIn wsX0_leastCrossingOnNoSphere (wsV RX0 79 RX4 yX4_crossings wsX4_crossings) := goodIn_app (goodIn_of _ (by decide +kernel)) ggX0_leastCrossingOnNoSphere_X4_crossings
set_option maxRecDepth 20000 in
theorem ggX0_leastCrossingOnNoSphere_X2_least : GoodIn wsX0_leastCrossingOnNoSphere wsX2_least := goodIn_r _ [13, 14, 15, 16, 17, 12, 18, 19, 74, 75, 76, 77] (by decide +kernel) (by decide +kernel)
set_option maxRecDepth 20000 in
theorem gX0_leastCrossingOnNoSphere_X2_least : GoodIn wsX0_leastCrossingOnNoSphere (wsV RX0 116 RX2 yX2_least wsX2_least) := goodIn_app (goodIn_of _ (by decide +kernel)) ggX0_leastCrossingOnNoSphere_X2_least
set_option maxRecDepth 20000 in
theorem ggX0_leastCrossingOnNoSphere_X2_numberOf : GoodIn wsX0_leastCrossingOnNoSphere wsX2_numberOf := goodIn_r _ [23, 24, 15, 16, 17, 12, 18, 19, 74, 75, 76, 77] (by decide +kernel) (by decide +kernel)
set_option maxRecDepth 20000 in
theorem gX0_leastCrossingOnNoSphere_X2_numberOf : GoodIn wsX0_leastCrossingOnNoSphere (wsV RX0 119 RX2 yX2_numberOf wsX2_numberOf) := goodIn_app (goodIn_of _ (by decide +kernel)) ggX0_leastCrossingOnNoSphere_X2_numberOf
set_option maxRecDepth 20000 in
theorem ggX0_leastCrossingOnNoSphere_X0_facesLessCrossings : GoodIn wsX0_leastCrossingOnNoSphere wsX0_facesLessCrossings := goodIn_r _ [29, 30, 1, 2, 31, 32, 33, 34, 35, 36, 37, 38, 39, 40, 41, 42, 43, 44, 45, 46, 47, 48, 28, 49, 50, 51, 52, 53, 54, 55, 56, 57, 58, 59, 60, 61, 20, 21, 22, 12, 23, 24, 15, 16, 17, 18, 19, 3, 4, 5, 6, 7, 8, 62, 63, 64, 65, 66, 67, 68, 69, 70, 78, 79, 80, 81, 82, 83, 84, 85, 86, 87, 88, 89, 74, 75, 76, 77, 71, 72, 73] (by decide +kernel) (by decide +kernel)
set_option maxRecDepth 20000 in
theorem gX0_leastCrossingOnNoSphere_X0_facesLessCrossings : GoodIn wsX0_leastCrossingOnNoSphere (wsV RX0 122 RX0 yX0_facesLessCrossings wsX0_facesLessCrossings) := goodIn_app (goodIn_of _ (by decide +kernel)) ggX0_leastCrossingOnNoSphere_X0_facesLessCrossings
theorem dX0_leastCrossingOnNoSphere_0 : decode cX0_leastCrossingOnNoSphere 0 = .ok (.iconst 0, 1) := by decide +kernel
theorem dX0_leastCrossingOnNoSphere_1 : decode cX0_leastCrossingOnNoSphere 1 = .ok (.istore_n 1, 1) := by decide +kernel
theorem dX0_leastCrossingOnNoSphere_2 : decode cX0_leastCrossingOnNoSphere 2 = .ok (.iload_n 1, 1) := by decide +kernel
theorem dX0_leastCrossingOnNoSphere_3 : decode cX0_leastCrossingOnNoSphere 3 = .ok (.aload_n 0, 1) := by decide +kernel
theorem dX0_leastCrossingOnNoSphere_4 : decode cX0_leastCrossingOnNoSphere 4 = .ok (.getfield 12, 3) := by decide +kernel
theorem dX0_leastCrossingOnNoSphere_7 : decode cX0_leastCrossingOnNoSphere 7 = .ok (.invokevirtual 79, 3) := by decide +kernel
theorem dX0_leastCrossingOnNoSphere_10 : decode cX0_leastCrossingOnNoSphere 10 = .ok (.if_icmp .ge 39, 3) := by decide +kernel
theorem dX0_leastCrossingOnNoSphere_13 : decode cX0_leastCrossingOnNoSphere 13 = .ok (.aload_n 0, 1) := by decide +kernel
theorem dX0_leastCrossingOnNoSphere_14 : decode cX0_leastCrossingOnNoSphere 14 = .ok (.getfield 28, 3) := by decide +kernel
theorem dX0_leastCrossingOnNoSphere_17 : decode cX0_leastCrossingOnNoSphere 17 = .ok (.iload_n 1, 1) := by decide +kernel
theorem dX0_leastCrossingOnNoSphere_18 : decode cX0_leastCrossingOnNoSphere 18 = .ok (.invokevirtual 116, 3) := by decide +kernel
theorem dX0_leastCrossingOnNoSphere_21 : decode cX0_leastCrossingOnNoSphere 21 = .ok (.iload_n 1, 1) := by decide +kernel
theorem dX0_leastCrossingOnNoSphere_22 : decode cX0_leastCrossingOnNoSphere 22 = .ok (.if_icmp .ne 21, 3) := by decide +kernel
theorem dX0_leastCrossingOnNoSphere_25 : decode cX0_leastCrossingOnNoSphere 25 = .ok (.aload_n 0, 1) := by decide +kernel
theorem dX0_leastCrossingOnNoSphere_26 : decode cX0_leastCrossingOnNoSphere 26 = .ok (.aload_n 0, 1) := by decide +kernel
theorem dX0_leastCrossingOnNoSphere_27 : decode cX0_leastCrossingOnNoSphere 27 = .ok (.getfield 28, 3) := by decide +kernel
theorem dX0_leastCrossingOnNoSphere_30 : decode cX0_leastCrossingOnNoSphere 30 = .ok (.iload_n 1, 1) := by decide +kernel
theorem dX0_leastCrossingOnNoSphere_31 : decode cX0_leastCrossingOnNoSphere 31 = .ok (.invokevirtual 119, 3) := by decide +kernel
theorem dX0_leastCrossingOnNoSphere_34 : decode cX0_leastCrossingOnNoSphere 34 = .ok (.invokevirtual 122, 3) := by decide +kernel
theorem dX0_leastCrossingOnNoSphere_37 : decode cX0_leastCrossingOnNoSphere 37 = .ok (.iconst 2, 1) := by decide +kernel
theorem dX0_leastCrossingOnNoSphere_38 : decode cX0_leastCrossingOnNoSphere 38 = .ok (.if_icmp .eq 5, 3) := by decide +kernel
theorem dX0_leastCrossingOnNoSphere_41 : decode cX0_leastCrossingOnNoSphere 41 = .ok (.iload_n 1, 1) := by decide +kernel
theorem dX0_leastCrossingOnNoSphere_42 : decode cX0_leastCrossingOnNoSphere 42 = .ok (.ireturn, 1) := by decide +kernel
theorem dX0_leastCrossingOnNoSphere_43 : decode cX0_leastCrossingOnNoSphere 43 = .ok (.iinc 1 1, 3) := by decide +kernel
theorem dX0_leastCrossingOnNoSphere_46 : decode cX0_leastCrossingOnNoSphere 46 = .ok (.goto (-44), 3) := by decide +kernel
theorem dX0_leastCrossingOnNoSphere_49 : decode cX0_leastCrossingOnNoSphere 49 = .ok (.iconst (-1), 1) := by decide +kernel
theorem dX0_leastCrossingOnNoSphere_50 : decode cX0_leastCrossingOnNoSphere 50 = .ok (.ireturn, 1) := by decide +kernel
set_option maxRecDepth 20000 in
theorem ggX0_facesLessCrossings_X3_count : GoodIn wsX0_facesLessCrossings wsX3_count := goodIn_r _ [8, 9, 62, 63, 64, 65, 66, 67] (by decide +kernel) (by decide +kernel)
set_option maxRecDepth 20000 in
theorem gX0_facesLessCrossings_X3_count : GoodIn wsX0_facesLessCrossings (wsV RX0 125 RX3 yX3_count wsX3_count) := goodIn_app (goodIn_of _ (by decide +kernel)) ggX0_facesLessCrossings_X3_count
set_option maxRecDepth 20000 in
theorem ggX0_facesLessCrossings_X3_first : GoodIn wsX0_facesLessCrossings wsX3_first := goodIn_r _ [13, 14, 15, 16, 17, 7, 18, 9, 62, 63, 64, 65, 66, 67] (by decide +kernel) (by decide +kernel)
set_option maxRecDepth 20000 in
theorem gX0_facesLessCrossings_X3_first : GoodIn wsX0_facesLessCrossings (wsV RX0 126 RX3 yX3_first wsX3_first) := goodIn_app (goodIn_of _ (by decide +kernel)) ggX0_facesLessCrossings_X3_first
set_option maxRecDepth 20000 in
theorem ggX0_facesLessCrossings_X0_pieceOfEdge : GoodIn wsX0_facesLessCrossings wsX0_pieceOfEdge := goodIn_r _ [23, 3, 24, 25, 26, 27, 28, 29, 30, 31, 32, 33, 34, 35, 36, 37, 38, 39, 40, 41, 42, 43, 44, 45, 46, 53, 54, 55, 56, 57, 58, 59, 60, 61, 68, 69, 70, 71, 72, 73, 74, 75, 76, 77] (by decide +kernel) (by decide +kernel)
set_option maxRecDepth 20000 in
theorem gX0_facesLessCrossings_X0_pieceOfEdge : GoodIn wsX0_facesLessCrossings (wsV RX0 129 RX0 yX0_pieceOfEdge wsX0_pieceOfEdge) := goodIn_app (goodIn_of _ (by decide +kernel)) ggX0_facesLessCrossings_X0_pieceOfEdge
set_option maxRecDepth 20000 in
theorem ggX0_facesLessCrossings_X4_crossings : GoodIn wsX0_facesLessCrossings wsX4_crossings := goodIn_r _ [51, 52, 78, 79, 80] (by decide +kernel) (by decide +kernel)
set_option maxRecDepth 20000 in
theorem gX0_facesLessCrossings_X4_crossings : GoodIn wsX0_facesLessCrossings (wsV RX0 79 RX4 yX4_crossings wsX4_crossings) := goodIn_app (goodIn_of _ (by decide +kernel)) ggX0_facesLessCrossings_X4_crossings
set_option maxRecDepth 20000 in
theorem ggX0_facesLessCrossings_X2_numberOf : GoodIn wsX0_facesLessCrossings wsX2_numberOf := goodIn_r _ [40, 41, 42, 43, 44, 39, 45, 46, 74, 75, 76, 77] (by decide +kernel) (by decide +kernel)
set_option maxRecDepth 20000 in
theorem gX0_facesLessCrossings_X2_numberOf : GoodIn wsX0_facesLessCrossings (wsV RX0 119 RX2 yX2_numberOf wsX2_numberOf) := goodIn_app (goodIn_of _ (by decide +kernel)) ggX0_facesLessCrossings_X2_numberOf
theorem dX0_facesLessCrossings_0 : decode cX0_facesLessCrossings 0 = .ok (.iconst 0, 1) := by decide +kernel
theorem dX0_facesLessCrossings_1 : decode cX0_facesLessCrossings 1 = .ok (.istore_n 2, 1) := by decide +kernel
theorem dX0_facesLessCrossings_2 : decode cX0_facesLessCrossings 2 = .ok (.iconst 0, 1) := by decide +kernel
theorem dX0_facesLessCrossings_3 : decode cX0_facesLessCrossings 3 = .ok (.istore_n 3, 1) := by decide +kernel
theorem dX0_facesLessCrossings_4 : decode cX0_facesLessCrossings 4 = .ok (.iload_n 3, 1) := by decide +kernel
theorem dX0_facesLessCrossings_5 : decode cX0_facesLessCrossings 5 = .ok (.aload_n 0, 1) := by decide +kernel
theorem dX0_facesLessCrossings_6 : decode cX0_facesLessCrossings 6 = .ok (.getfield 45, 3) := by decide +kernel
theorem dX0_facesLessCrossings_9 : decode cX0_facesLessCrossings 9 = .ok (.invokevirtual 125, 3) := by decide +kernel
theorem dX0_facesLessCrossings_12 : decode cX0_facesLessCrossings 12 = .ok (.if_icmp .ge 30, 3) := by decide +kernel
theorem dX0_facesLessCrossings_15 : decode cX0_facesLessCrossings 15 = .ok (.aload_n 0, 1) := by decide +kernel
theorem dX0_facesLessCrossings_16 : decode cX0_facesLessCrossings 16 = .ok (.aload_n 0, 1) := by decide +kernel
theorem dX0_facesLessCrossings_17 : decode cX0_facesLessCrossings 17 = .ok (.getfield 45, 3) := by decide +kernel
theorem dX0_facesLessCrossings_20 : decode cX0_facesLessCrossings 20 = .ok (.iload_n 3, 1) := by decide +kernel
theorem dX0_facesLessCrossings_21 : decode cX0_facesLessCrossings 21 = .ok (.invokevirtual 126, 3) := by decide +kernel
theorem dX0_facesLessCrossings_24 : decode cX0_facesLessCrossings 24 = .ok (.iconst 2, 1) := by decide +kernel
theorem dX0_facesLessCrossings_25 : decode cX0_facesLessCrossings 25 = .ok (.idiv, 1) := by decide +kernel
theorem dX0_facesLessCrossings_26 : decode cX0_facesLessCrossings 26 = .ok (.invokevirtual 129, 3) := by decide +kernel
theorem dX0_facesLessCrossings_29 : decode cX0_facesLessCrossings 29 = .ok (.iload_n 1, 1) := by decide +kernel
theorem dX0_facesLessCrossings_30 : decode cX0_facesLessCrossings 30 = .ok (.if_icmp .ne 6, 3) := by decide +kernel
theorem dX0_facesLessCrossings_33 : decode cX0_facesLessCrossings 33 = .ok (.iinc 2 1, 3) := by decide +kernel
theorem dX0_facesLessCrossings_36 : decode cX0_facesLessCrossings 36 = .ok (.iinc 3 1, 3) := by decide +kernel
theorem dX0_facesLessCrossings_39 : decode cX0_facesLessCrossings 39 = .ok (.goto (-35), 3) := by decide +kernel
theorem dX0_facesLessCrossings_42 : decode cX0_facesLessCrossings 42 = .ok (.iconst 0, 1) := by decide +kernel
theorem dX0_facesLessCrossings_43 : decode cX0_facesLessCrossings 43 = .ok (.istore_n 3, 1) := by decide +kernel
theorem dX0_facesLessCrossings_44 : decode cX0_facesLessCrossings 44 = .ok (.iload_n 3, 1) := by decide +kernel
theorem dX0_facesLessCrossings_45 : decode cX0_facesLessCrossings 45 = .ok (.aload_n 0, 1) := by decide +kernel
theorem dX0_facesLessCrossings_46 : decode cX0_facesLessCrossings 46 = .ok (.getfield 12, 3) := by decide +kernel
theorem dX0_facesLessCrossings_49 : decode cX0_facesLessCrossings 49 = .ok (.invokevirtual 79, 3) := by decide +kernel
theorem dX0_facesLessCrossings_52 : decode cX0_facesLessCrossings 52 = .ok (.if_icmp .ge 24, 3) := by decide +kernel
theorem dX0_facesLessCrossings_55 : decode cX0_facesLessCrossings 55 = .ok (.aload_n 0, 1) := by decide +kernel
theorem dX0_facesLessCrossings_56 : decode cX0_facesLessCrossings 56 = .ok (.getfield 28, 3) := by decide +kernel
theorem dX0_facesLessCrossings_59 : decode cX0_facesLessCrossings 59 = .ok (.iload_n 3, 1) := by decide +kernel
theorem dX0_facesLessCrossings_60 : decode cX0_facesLessCrossings 60 = .ok (.invokevirtual 119, 3) := by decide +kernel
theorem dX0_facesLessCrossings_63 : decode cX0_facesLessCrossings 63 = .ok (.iload_n 1, 1) := by decide +kernel
theorem dX0_facesLessCrossings_64 : decode cX0_facesLessCrossings 64 = .ok (.if_icmp .ne 6, 3) := by decide +kernel
theorem dX0_facesLessCrossings_67 : decode cX0_facesLessCrossings 67 = .ok (.iinc 2 (-1), 3) := by decide +kernel
theorem dX0_facesLessCrossings_70 : decode cX0_facesLessCrossings 70 = .ok (.iinc 3 1, 3) := by decide +kernel
theorem dX0_facesLessCrossings_73 : decode cX0_facesLessCrossings 73 = .ok (.goto (-29), 3) := by decide +kernel
theorem dX0_facesLessCrossings_76 : decode cX0_facesLessCrossings 76 = .ok (.iload_n 2, 1) := by decide +kernel
theorem dX0_facesLessCrossings_77 : decode cX0_facesLessCrossings 77 = .ok (.ireturn, 1) := by decide +kernel
set_option maxRecDepth 20000 in
theorem ggX0_traceStrands_X1_count : GoodIn wsX0_traceStrands wsX1_count := goodIn_r _ [9, 10, 97, 98, 99, 100, 101, 102] (by decide +kernel) (by decide +kernel)
set_option maxRecDepth 20000 in
theorem gX0_traceStrands_X1_count : GoodIn wsX0_traceStrands (wsV RX0 86 RX1 yX1_count wsX1_count) := goodIn_app (goodIn_of _ (by decide +kernel)) ggX0_traceStrands_X1_count
set_option maxRecDepth 20000 in
theorem ggX0_traceStrands_X3_begin : GoodIn wsX0_traceStrands wsX3_begin := goodIn_r _ [15, 16, 17, 18, 19, 20, 21, 103, 104, 105, 106, 107, 108] (by decide +kernel) (by decide +kernel)
set_option maxRecDepth 20000 in
theorem gX0_traceStrands_X3_begin : GoodIn wsX0_traceStrands (wsV RX0 103 RX3 yX3_begin wsX3_begin) := goodIn_app (goodIn_of _ (by decide +kernel)) ggX0_traceStrands_X3_begin
set_option maxRecDepth 20000 in
theorem ggX0_traceStrands_X1_to : GoodIn wsX0_traceStrands wsX1_to := goodIn_r _ [25, 26, 27, 28, 29, 8, 30, 10, 97, 98, 99, 100, 101, 102] (by decide +kernel) (by decide +kernel)
set_option maxRecDepth 20000 in
theorem gX0_traceStrands_X1_to : GoodIn wsX0_traceStrands (wsV RX0 93 RX1 yX1_to wsX1_to) := goodIn_app (goodIn_of _ (by decide +kernel)) ggX0_traceStrands_X1_to
set_option maxRecDepth 20000 in
theorem ggX0_traceStrands_X4_across : GoodIn wsX0_traceStrands wsX4_across := goodIn_r _ [34] (by decide +kernel) (by decide +kernel)
set_option maxRecDepth 20000 in
theorem gX0_traceStrands_X4_across : GoodIn wsX0_traceStrands (va_wsS RX0 132 yX4_across wsX4_across) := goodIn_app (goodIn_of _ (by decide +kernel)) ggX0_traceStrands_X4_across
set_option maxRecDepth 20000 in
theorem ggX0_traceStrands_X1_at : GoodIn wsX0_traceStrands wsX1_at := goodIn_r _ [38, 39, 97, 98, 99, 100, 101, 102] (by decide +kernel) (by decide +kernel)
set_option maxRecDepth 20000 in
theorem gX0_traceStrands_X1_at : GoodIn wsX0_traceStrands (wsV RX0 135 RX1 yX1_at wsX1_at) := goodIn_app (goodIn_of _ (by decide +kernel)) ggX0_traceStrands_X1_at
set_option maxRecDepth 20000 in
theorem ggX0_traceStrands_X3_link : GoodIn wsX0_traceStrands wsX3_link := goodIn_r _ [43, 44, 45, 46, 47, 14, 48, 20, 103, 104, 105, 106, 107, 108] (by decide +kernel) (by decide +kernel)
set_option maxRecDepth 20000 in
theorem gX0_traceStrands_X3_link : GoodIn wsX0_traceStrands (wsV RX0 110 RX3 yX3_link wsX3_link) := goodIn_app (goodIn_of _ (by decide +kernel)) ggX0_traceStrands_X3_link
set_option maxRecDepth 20000 in
theorem ggX0_traceStrands_X4_seifertOut : GoodIn wsX0_traceStrands wsX4_seifertOut := goodIn_r _ [52, 53, 54, 33, 55, 56, 57, 58, 59, 60, 61, 62, 63, 64, 65, 66, 67, 68, 69, 70, 71, 72, 109, 110, 111] (by decide +kernel) (by decide +kernel)
set_option maxRecDepth 20000 in
theorem gX0_traceStrands_X4_seifertOut : GoodIn wsX0_traceStrands (wsV RX0 138 RX4 yX4_seifertOut wsX4_seifertOut) := goodIn_app (goodIn_of _ (by decide +kernel)) ggX0_traceStrands_X4_seifertOut
set_option maxRecDepth 20000 in
theorem ggX0_traceStrands_X3_trace : GoodIn wsX0_traceStrands wsX3_trace := goodIn_r _ [76, 77, 20, 78, 79, 80, 81, 82, 83, 84, 14, 85, 21, 44, 86, 87, 45, 46, 47, 48, 103, 104, 105, 106, 107, 108] (by decide +kernel) (by decide +kernel)
set_option maxRecDepth 20000 in
theorem gX0_traceStrands_X3_trace : GoodIn wsX0_traceStrands (wsV RX0 113 RX3 yX3_trace wsX3_trace) := goodIn_app (goodIn_of _ (by decide +kernel)) ggX0_traceStrands_X3_trace
theorem dX0_traceStrands_0 : decode cX0_traceStrands 0 = .ok (.aload_n 0, 1) := by decide +kernel
theorem dX0_traceStrands_1 : decode cX0_traceStrands 1 = .ok (.getfield 38, 3) := by decide +kernel
theorem dX0_traceStrands_4 : decode cX0_traceStrands 4 = .ok (.aload_n 0, 1) := by decide +kernel
theorem dX0_traceStrands_5 : decode cX0_traceStrands 5 = .ok (.getfield 21, 3) := by decide +kernel
theorem dX0_traceStrands_8 : decode cX0_traceStrands 8 = .ok (.invokevirtual 86, 3) := by decide +kernel
theorem dX0_traceStrands_11 : decode cX0_traceStrands 11 = .ok (.invokevirtual 103, 3) := by decide +kernel
theorem dX0_traceStrands_14 : decode cX0_traceStrands 14 = .ok (.aload_n 0, 1) := by decide +kernel
theorem dX0_traceStrands_15 : decode cX0_traceStrands 15 = .ok (.getfield 42, 3) := by decide +kernel
theorem dX0_traceStrands_18 : decode cX0_traceStrands 18 = .ok (.aload_n 0, 1) := by decide +kernel
theorem dX0_traceStrands_19 : decode cX0_traceStrands 19 = .ok (.getfield 21, 3) := by decide +kernel
theorem dX0_traceStrands_22 : decode cX0_traceStrands 22 = .ok (.invokevirtual 86, 3) := by decide +kernel
theorem dX0_traceStrands_25 : decode cX0_traceStrands 25 = .ok (.invokevirtual 103, 3) := by decide +kernel
theorem dX0_traceStrands_28 : decode cX0_traceStrands 28 = .ok (.iconst 0, 1) := by decide +kernel
theorem dX0_traceStrands_29 : decode cX0_traceStrands 29 = .ok (.istore_n 1, 1) := by decide +kernel
theorem dX0_traceStrands_30 : decode cX0_traceStrands 30 = .ok (.iload_n 1, 1) := by decide +kernel
theorem dX0_traceStrands_31 : decode cX0_traceStrands 31 = .ok (.aload_n 0, 1) := by decide +kernel
theorem dX0_traceStrands_32 : decode cX0_traceStrands 32 = .ok (.getfield 21, 3) := by decide +kernel
theorem dX0_traceStrands_35 : decode cX0_traceStrands 35 = .ok (.invokevirtual 86, 3) := by decide +kernel
theorem dX0_traceStrands_38 : decode cX0_traceStrands 38 = .ok (.if_icmp .ge 65, 3) := by decide +kernel
theorem dX0_traceStrands_41 : decode cX0_traceStrands 41 = .ok (.aload_n 0, 1) := by decide +kernel
theorem dX0_traceStrands_42 : decode cX0_traceStrands 42 = .ok (.getfield 38, 3) := by decide +kernel
theorem dX0_traceStrands_45 : decode cX0_traceStrands 45 = .ok (.iload_n 1, 1) := by decide +kernel
theorem dX0_traceStrands_46 : decode cX0_traceStrands 46 = .ok (.aload_n 0, 1) := by decide +kernel
theorem dX0_traceStrands_47 : decode cX0_traceStrands 47 = .ok (.getfield 21, 3) := by decide +kernel
theorem dX0_traceStrands_50 : decode cX0_traceStrands 50 = .ok (.aload_n 0, 1) := by decide +kernel
theorem dX0_traceStrands_51 : decode cX0_traceStrands 51 = .ok (.getfield 21, 3) := by decide +kernel
theorem dX0_traceStrands_54 : decode cX0_traceStrands 54 = .ok (.iload_n 1, 1) := by decide +kernel
theorem dX0_traceStrands_55 : decode cX0_traceStrands 55 = .ok (.invokevirtual 93, 3) := by decide +kernel
theorem dX0_traceStrands_58 : decode cX0_traceStrands 58 = .ok (.invokestatic 132, 3) := by decide +kernel
theorem dX0_traceStrands_61 : decode cX0_traceStrands 61 = .ok (.invokevirtual 135, 3) := by decide +kernel
theorem dX0_traceStrands_64 : decode cX0_traceStrands 64 = .ok (.invokevirtual 110, 3) := by decide +kernel
theorem dX0_traceStrands_67 : decode cX0_traceStrands 67 = .ok (.aload_n 0, 1) := by decide +kernel
theorem dX0_traceStrands_68 : decode cX0_traceStrands 68 = .ok (.getfield 42, 3) := by decide +kernel
theorem dX0_traceStrands_71 : decode cX0_traceStrands 71 = .ok (.iload_n 1, 1) := by decide +kernel
theorem dX0_traceStrands_72 : decode cX0_traceStrands 72 = .ok (.aload_n 0, 1) := by decide +kernel
theorem dX0_traceStrands_73 : decode cX0_traceStrands 73 = .ok (.getfield 21, 3) := by decide +kernel
theorem dX0_traceStrands_76 : decode cX0_traceStrands 76 = .ok (.aload_n 0, 1) := by decide +kernel
theorem dX0_traceStrands_77 : decode cX0_traceStrands 77 = .ok (.getfield 12, 3) := by decide +kernel
theorem dX0_traceStrands_80 : decode cX0_traceStrands 80 = .ok (.aload_n 0, 1) := by decide +kernel
theorem dX0_traceStrands_81 : decode cX0_traceStrands 81 = .ok (.getfield 21, 3) := by decide +kernel
theorem dX0_traceStrands_84 : decode cX0_traceStrands 84 = .ok (.iload_n 1, 1) := by decide +kernel
theorem dX0_traceStrands_85 : decode cX0_traceStrands 85 = .ok (.invokevirtual 93, 3) := by decide +kernel
theorem dX0_traceStrands_88 : decode cX0_traceStrands 88 = .ok (.invokevirtual 138, 3) := by decide +kernel
theorem dX0_traceStrands_91 : decode cX0_traceStrands 91 = .ok (.invokevirtual 135, 3) := by decide +kernel
theorem dX0_traceStrands_94 : decode cX0_traceStrands 94 = .ok (.invokevirtual 110, 3) := by decide +kernel
theorem dX0_traceStrands_97 : decode cX0_traceStrands 97 = .ok (.iinc 1 1, 3) := by decide +kernel
theorem dX0_traceStrands_100 : decode cX0_traceStrands 100 = .ok (.goto (-70), 3) := by decide +kernel
theorem dX0_traceStrands_103 : decode cX0_traceStrands 103 = .ok (.aload_n 0, 1) := by decide +kernel
theorem dX0_traceStrands_104 : decode cX0_traceStrands 104 = .ok (.getfield 38, 3) := by decide +kernel
theorem dX0_traceStrands_107 : decode cX0_traceStrands 107 = .ok (.invokevirtual 113, 3) := by decide +kernel
theorem dX0_traceStrands_110 : decode cX0_traceStrands 110 = .ok (.aload_n 0, 1) := by decide +kernel
theorem dX0_traceStrands_111 : decode cX0_traceStrands 111 = .ok (.getfield 42, 3) := by decide +kernel
theorem dX0_traceStrands_114 : decode cX0_traceStrands 114 = .ok (.invokevirtual 113, 3) := by decide +kernel
theorem dX0_traceStrands_117 : decode cX0_traceStrands 117 = .ok (.return_, 1) := by decide +kernel
set_option maxRecDepth 20000 in
theorem ggX0_groupArcs_X1_count : GoodIn wsX0_groupArcs wsX1_count := goodIn_r _ [8, 9, 79, 80, 81, 82, 83, 84] (by decide +kernel) (by decide +kernel)
set_option maxRecDepth 20000 in
theorem gX0_groupArcs_X1_count : GoodIn wsX0_groupArcs (wsV RX0 86 RX1 yX1_count wsX1_count) := goodIn_app (goodIn_of _ (by decide +kernel)) ggX0_groupArcs_X1_count
set_option maxRecDepth 20000 in
theorem ggX0_groupArcs_X2_begin : GoodIn wsX0_groupArcs wsX2_begin := goodIn_r _ [14, 15, 16, 17, 18, 19, 20, 85, 86, 87, 88] (by decide +kernel) (by decide +kernel)
set_option maxRecDepth 20000 in
theorem gX0_groupArcs_X2_begin : GoodIn wsX0_groupArcs (wsV RX0 82 RX2 yX2_begin wsX2_begin) := goodIn_app (goodIn_of _ (by decide +kernel)) ggX0_groupArcs_X2_begin
set_option maxRecDepth 20000 in
theorem ggX0_groupArcs_X1_to : GoodIn wsX0_groupArcs wsX1_to := goodIn_r _ [24, 25, 26, 27, 28, 7, 29, 9, 79, 80, 81, 82, 83, 84] (by decide +kernel) (by decide +kernel)
set_option maxRecDepth 20000 in
theorem gX0_groupArcs_X1_to : GoodIn wsX0_groupArcs (wsV RX0 93 RX1 yX1_to wsX1_to) := goodIn_app (goodIn_of _ (by decide +kernel)) ggX0_groupArcs_X1_to
set_option maxRecDepth 20000 in
theorem ggX0_groupArcs_X4_isUpper : GoodIn wsX0_groupArcs wsX4_isUpper := goodIn_r _ [33] (by decide +kernel) (by decide +kernel)
set_option maxRecDepth 20000 in
theorem gX0_groupArcs_X4_isUpper : GoodIn wsX0_groupArcs (va_wsS RX0 141 yX4_isUpper wsX4_isUpper) := goodIn_app (goodIn_of _ (by decide +kernel)) ggX0_groupArcs_X4_isUpper
set_option maxRecDepth 20000 in
theorem ggX0_groupArcs_X3_next : GoodIn wsX0_groupArcs wsX3_next := goodIn_r _ [38, 39, 40, 41, 42, 37, 43, 44, 89, 90, 91, 92, 93, 94] (by decide +kernel) (by decide +kernel)
set_option maxRecDepth 20000 in
theorem gX0_groupArcs_X3_next : GoodIn wsX0_groupArcs (wsV RX0 145 RX3 yX3_next wsX3_next) := goodIn_app (goodIn_of _ (by decide +kernel)) ggX0_groupArcs_X3_next
set_option maxRecDepth 20000 in
theorem ggX0_groupArcs_X2_join : GoodIn wsX0_groupArcs wsX2_join := goodIn_r _ [48, 15, 16, 17, 18, 49, 50, 51, 19, 20, 52, 53, 54, 13, 55, 56, 57, 58, 59, 85, 86, 87, 88] (by decide +kernel) (by decide +kernel)
set_option maxRecDepth 20000 in
theorem gX0_groupArcs_X2_join : GoodIn wsX0_groupArcs (wsV RX0 96 RX2 yX2_join wsX2_join) := goodIn_app (goodIn_of _ (by decide +kernel)) ggX0_groupArcs_X2_join
set_option maxRecDepth 20000 in
theorem ggX0_groupArcs_X2_numberGroups : GoodIn wsX0_groupArcs wsX2_numberGroups := goodIn_r _ [63, 64, 19, 20, 65, 66, 67, 68, 13, 69, 56, 57, 58, 59, 85, 86, 87, 88] (by decide +kernel) (by decide +kernel)
set_option maxRecDepth 20000 in
theorem gX0_groupArcs_X2_numberGroups : GoodIn wsX0_groupArcs (wsV RX0 100 RX2 yX2_numberGroups wsX2_numberGroups) := goodIn_app (goodIn_of _ (by decide +kernel)) ggX0_groupArcs_X2_numberGroups
theorem dX0_groupArcs_0 : decode cX0_groupArcs 0 = .ok (.aload_n 0, 1) := by decide +kernel
theorem dX0_groupArcs_1 : decode cX0_groupArcs 1 = .ok (.getfield 32, 3) := by decide +kernel
theorem dX0_groupArcs_4 : decode cX0_groupArcs 4 = .ok (.aload_n 0, 1) := by decide +kernel
theorem dX0_groupArcs_5 : decode cX0_groupArcs 5 = .ok (.getfield 21, 3) := by decide +kernel
theorem dX0_groupArcs_8 : decode cX0_groupArcs 8 = .ok (.invokevirtual 86, 3) := by decide +kernel
theorem dX0_groupArcs_11 : decode cX0_groupArcs 11 = .ok (.invokevirtual 82, 3) := by decide +kernel
theorem dX0_groupArcs_14 : decode cX0_groupArcs 14 = .ok (.iconst 0, 1) := by decide +kernel
theorem dX0_groupArcs_15 : decode cX0_groupArcs 15 = .ok (.istore_n 1, 1) := by decide +kernel
theorem dX0_groupArcs_16 : decode cX0_groupArcs 16 = .ok (.iload_n 1, 1) := by decide +kernel
theorem dX0_groupArcs_17 : decode cX0_groupArcs 17 = .ok (.aload_n 0, 1) := by decide +kernel
theorem dX0_groupArcs_18 : decode cX0_groupArcs 18 = .ok (.getfield 21, 3) := by decide +kernel
theorem dX0_groupArcs_21 : decode cX0_groupArcs 21 = .ok (.invokevirtual 86, 3) := by decide +kernel
theorem dX0_groupArcs_24 : decode cX0_groupArcs 24 = .ok (.if_icmp .ge 39, 3) := by decide +kernel
theorem dX0_groupArcs_27 : decode cX0_groupArcs 27 = .ok (.aload_n 0, 1) := by decide +kernel
theorem dX0_groupArcs_28 : decode cX0_groupArcs 28 = .ok (.getfield 21, 3) := by decide +kernel
theorem dX0_groupArcs_31 : decode cX0_groupArcs 31 = .ok (.iload_n 1, 1) := by decide +kernel
theorem dX0_groupArcs_32 : decode cX0_groupArcs 32 = .ok (.invokevirtual 93, 3) := by decide +kernel
theorem dX0_groupArcs_35 : decode cX0_groupArcs 35 = .ok (.invokestatic 141, 3) := by decide +kernel
theorem dX0_groupArcs_38 : decode cX0_groupArcs 38 = .ok (.ifCond .eq 19, 3) := by decide +kernel
theorem dX0_groupArcs_41 : decode cX0_groupArcs 41 = .ok (.aload_n 0, 1) := by decide +kernel
theorem dX0_groupArcs_42 : decode cX0_groupArcs 42 = .ok (.getfield 32, 3) := by decide +kernel
theorem dX0_groupArcs_45 : decode cX0_groupArcs 45 = .ok (.iload_n 1, 1) := by decide +kernel
theorem dX0_groupArcs_46 : decode cX0_groupArcs 46 = .ok (.aload_n 0, 1) := by decide +kernel
theorem dX0_groupArcs_47 : decode cX0_groupArcs 47 = .ok (.getfield 38, 3) := by decide +kernel
theorem dX0_groupArcs_50 : decode cX0_groupArcs 50 = .ok (.iload_n 1, 1) := by decide +kernel
theorem dX0_groupArcs_51 : decode cX0_groupArcs 51 = .ok (.invokevirtual 145, 3) := by decide +kernel
theorem dX0_groupArcs_54 : decode cX0_groupArcs 54 = .ok (.invokevirtual 96, 3) := by decide +kernel
theorem dX0_groupArcs_57 : decode cX0_groupArcs 57 = .ok (.iinc 1 1, 3) := by decide +kernel
theorem dX0_groupArcs_60 : decode cX0_groupArcs 60 = .ok (.goto (-44), 3) := by decide +kernel
theorem dX0_groupArcs_63 : decode cX0_groupArcs 63 = .ok (.aload_n 0, 1) := by decide +kernel
theorem dX0_groupArcs_64 : decode cX0_groupArcs 64 = .ok (.getfield 32, 3) := by decide +kernel
theorem dX0_groupArcs_67 : decode cX0_groupArcs 67 = .ok (.invokevirtual 100, 3) := by decide +kernel
theorem dX0_groupArcs_70 : decode cX0_groupArcs 70 = .ok (.return_, 1) := by decide +kernel
set_option maxRecDepth 20000 in
theorem ggX0_pieceOfEdge_X1_to : GoodIn wsX0_pieceOfEdge wsX1_to := goodIn_r _ [7, 8, 9, 10, 11, 6, 12, 13, 34, 35, 36, 37, 38, 39] (by decide +kernel) (by decide +kernel)
set_option maxRecDepth 20000 in
theorem gX0_pieceOfEdge_X1_to : GoodIn wsX0_pieceOfEdge (wsV RX0 93 RX1 yX1_to wsX1_to) := goodIn_app (goodIn_of _ (by decide +kernel)) ggX0_pieceOfEdge_X1_to
set_option maxRecDepth 20000 in
theorem ggX0_pieceOfEdge_X2_numberOf : GoodIn wsX0_pieceOfEdge wsX2_numberOf := goodIn_r _ [18, 19, 20, 21, 22, 17, 23, 24, 40, 41, 42, 43] (by decide +kernel) (by decide +kernel)
set_option maxRecDepth 20000 in
theorem gX0_pieceOfEdge_X2_numberOf : GoodIn wsX0_pieceOfEdge (wsV RX0 119 RX2 yX2_numberOf wsX2_numberOf) := goodIn_app (goodIn_of _ (by decide +kernel)) ggX0_pieceOfEdge_X2_numberOf
theorem dX0_pieceOfEdge_0 : decode cX0_pieceOfEdge 0 = .ok (.aload_n 0, 1) := by decide +kernel
theorem dX0_pieceOfEdge_1 : decode cX0_pieceOfEdge 1 = .ok (.getfield 28, 3) := by decide +kernel
theorem dX0_pieceOfEdge_4 : decode cX0_pieceOfEdge 4 = .ok (.aload_n 0, 1) := by decide +kernel
theorem dX0_pieceOfEdge_5 : decode cX0_pieceOfEdge 5 = .ok (.getfield 21, 3) := by decide +kernel
theorem dX0_pieceOfEdge_8 : decode cX0_pieceOfEdge 8 = .ok (.iload_n 1, 1) := by decide +kernel
theorem dX0_pieceOfEdge_9 : decode cX0_pieceOfEdge 9 = .ok (.invokevirtual 93, 3) := by decide +kernel
theorem dX0_pieceOfEdge_12 : decode cX0_pieceOfEdge 12 = .ok (.iconst 4, 1) := by decide +kernel
theorem dX0_pieceOfEdge_13 : decode cX0_pieceOfEdge 13 = .ok (.idiv, 1) := by decide +kernel
theorem dX0_pieceOfEdge_14 : decode cX0_pieceOfEdge 14 = .ok (.invokevirtual 119, 3) := by decide +kernel
theorem dX0_pieceOfEdge_17 : decode cX0_pieceOfEdge 17 = .ok (.ireturn, 1) := by decide +kernel
set_option maxRecDepth 20000 in
theorem ggX0_pieceOfComponent_X3_first : GoodIn wsX0_pieceOfComponent wsX3_first := goodIn_r _ [6, 7, 8, 9, 10, 5, 11, 12, 51, 52, 53, 54, 55, 56] (by decide +kernel) (by decide +kernel)
set_option maxRecDepth 20000 in
theorem gX0_pieceOfComponent_X3_first : GoodIn wsX0_pieceOfComponent (wsV RX0 126 RX3 yX3_first wsX3_first) := goodIn_app (goodIn_of _ (by decide +kernel)) ggX0_pieceOfComponent_X3_first
set_option maxRecDepth 20000 in
theorem ggX0_pieceOfComponent_X0_pieceOfEdge : GoodIn wsX0_pieceOfComponent wsX0_pieceOfEdge := goodIn_r _ [17, 18, 19, 20, 21, 22, 23, 24, 25, 26, 27, 28, 29, 30, 31, 32, 33, 34, 35, 36, 37, 38, 39, 40, 41, 42, 43, 44, 45, 46, 47, 48, 49, 50, 57, 58, 59, 60, 61, 62, 63, 64, 65, 66] (by decide +kernel) (by decide +kernel)
set_option maxRecDepth 20000 in
theorem gX0_pieceOfComponent_X0_pieceOfEdge : GoodIn wsX0_pieceOfComponent (wsV RX0 129 RX0 yX0_pieceOfEdge wsX0_pieceOfEdge) := goodIn_app (goodIn_of _ (by decide +kernel)) ggX0_pieceOfComponent_X0_pieceOfEdge
theorem dX0_pieceOfComponent_0 : decode cX0_pieceOfComponent 0 = .ok (.aload_n 0, 1) := by decide +kernel
theorem dX0_pieceOfComponent_1 : decode cX0_pieceOfComponent 1 = .ok (.aload_n 0, 1) := by decide +kernel
theorem dX0_pieceOfComponent_2 : decode cX0_pieceOfComponent 2 = .ok (.getfield 38, 3) := by decide +kernel
theorem dX0_pieceOfComponent_5 : decode cX0_pieceOfComponent 5 = .ok (.iload_n 1, 1) := by decide +kernel
theorem dX0_pieceOfComponent_6 : decode cX0_pieceOfComponent 6 = .ok (.invokevirtual 126, 3) := by decide +kernel
theorem dX0_pieceOfComponent_9 : decode cX0_pieceOfComponent 9 = .ok (.invokevirtual 129, 3) := by decide +kernel
theorem dX0_pieceOfComponent_12 : decode cX0_pieceOfComponent 12 = .ok (.ireturn, 1) := by decide +kernel
set_option maxRecDepth 20000 in
theorem ggX0_lowerComponent_X4_lowerIn : GoodIn wsX0_lowerComponent wsX4_lowerIn := goodIn_r _ [6] (by decide +kernel) (by decide +kernel)
set_option maxRecDepth 20000 in
theorem gX0_lowerComponent_X4_lowerIn : GoodIn wsX0_lowerComponent (va_wsS RX0 148 yX4_lowerIn wsX4_lowerIn) := goodIn_app (goodIn_of _ (by decide +kernel)) ggX0_lowerComponent_X4_lowerIn
set_option maxRecDepth 20000 in
theorem ggX0_lowerComponent_X1_at : GoodIn wsX0_lowerComponent wsX1_at := goodIn_r _ [11, 12, 33, 34, 35, 36, 37, 38] (by decide +kernel) (by decide +kernel)
set_option maxRecDepth 20000 in
theorem gX0_lowerComponent_X1_at : GoodIn wsX0_lowerComponent (wsV RX0 135 RX1 yX1_at wsX1_at) := goodIn_app (goodIn_of _ (by decide +kernel)) ggX0_lowerComponent_X1_at
set_option maxRecDepth 20000 in
theorem ggX0_lowerComponent_X3_roundOf : GoodIn wsX0_lowerComponent wsX3_roundOf := goodIn_r _ [17, 18, 19, 20, 21, 16, 22, 23, 39, 40, 41, 42, 43, 44] (by decide +kernel) (by decide +kernel)
set_option maxRecDepth 20000 in
theorem gX0_lowerComponent_X3_roundOf : GoodIn wsX0_lowerComponent (wsV RX0 151 RX3 yX3_roundOf wsX3_roundOf) := goodIn_app (goodIn_of _ (by decide +kernel)) ggX0_lowerComponent_X3_roundOf
theorem dX0_lowerComponent_0 : decode cX0_lowerComponent 0 = .ok (.aload_n 0, 1) := by decide +kernel
theorem dX0_lowerComponent_1 : decode cX0_lowerComponent 1 = .ok (.getfield 38, 3) := by decide +kernel
theorem dX0_lowerComponent_4 : decode cX0_lowerComponent 4 = .ok (.aload_n 0, 1) := by decide +kernel
theorem dX0_lowerComponent_5 : decode cX0_lowerComponent 5 = .ok (.getfield 21, 3) := by decide +kernel
theorem dX0_lowerComponent_8 : decode cX0_lowerComponent 8 = .ok (.iload_n 1, 1) := by decide +kernel
theorem dX0_lowerComponent_9 : decode cX0_lowerComponent 9 = .ok (.invokestatic 148, 3) := by decide +kernel
theorem dX0_lowerComponent_12 : decode cX0_lowerComponent 12 = .ok (.invokevirtual 135, 3) := by decide +kernel
theorem dX0_lowerComponent_15 : decode cX0_lowerComponent 15 = .ok (.invokevirtual 151, 3) := by decide +kernel
theorem dX0_lowerComponent_18 : decode cX0_lowerComponent 18 = .ok (.ireturn, 1) := by decide +kernel
set_option maxRecDepth 20000 in
theorem ggX0_upperComponent_X4_upperIn : GoodIn wsX0_upperComponent wsX4_upperIn := goodIn_r _ [8, 9, 10, 11, 7, 12, 13, 14, 15, 16, 17, 18, 45, 46, 47] (by decide +kernel) (by decide +kernel)
set_option maxRecDepth 20000 in
theorem gX0_upperComponent_X4_upperIn : GoodIn wsX0_upperComponent (wsV RX0 154 RX4 yX4_upperIn wsX4_upperIn) := goodIn_app (goodIn_of _ (by decide +kernel)) ggX0_upperComponent_X4_upperIn
set_option maxRecDepth 20000 in
theorem ggX0_upperComponent_X1_at : GoodIn wsX0_upperComponent wsX1_at := goodIn_r _ [23, 24, 48, 49, 50, 51, 52, 53] (by decide +kernel) (by decide +kernel)
set_option maxRecDepth 20000 in
theorem gX0_upperComponent_X1_at : GoodIn wsX0_upperComponent (wsV RX0 135 RX1 yX1_at wsX1_at) := goodIn_app (goodIn_of _ (by decide +kernel)) ggX0_upperComponent_X1_at
set_option maxRecDepth 20000 in
theorem ggX0_upperComponent_X3_roundOf : GoodIn wsX0_upperComponent wsX3_roundOf := goodIn_r _ [29, 30, 31, 32, 33, 28, 34, 35, 54, 55, 56, 57, 58, 59] (by decide +kernel) (by decide +kernel)
set_option maxRecDepth 20000 in
theorem gX0_upperComponent_X3_roundOf : GoodIn wsX0_upperComponent (wsV RX0 151 RX3 yX3_roundOf wsX3_roundOf) := goodIn_app (goodIn_of _ (by decide +kernel)) ggX0_upperComponent_X3_roundOf
theorem dX0_upperComponent_0 : decode cX0_upperComponent 0 = .ok (.aload_n 0, 1) := by decide +kernel
theorem dX0_upperComponent_1 : decode cX0_upperComponent 1 = .ok (.getfield 38, 3) := by decide +kernel
theorem dX0_upperComponent_4 : decode cX0_upperComponent 4 = .ok (.aload_n 0, 1) := by decide +kernel
theorem dX0_upperComponent_5 : decode cX0_upperComponent 5 = .ok (.getfield 21, 3) := by decide +kernel
theorem dX0_upperComponent_8 : decode cX0_upperComponent 8 = .ok (.aload_n 0, 1) := by decide +kernel
theorem dX0_upperComponent_9 : decode cX0_upperComponent 9 = .ok (.getfield 12, 3) := by decide +kernel
theorem dX0_upperComponent_12 : decode cX0_upperComponent 12 = .ok (.iload_n 1, 1) := by decide +kernel
theorem dX0_upperComponent_13 : decode cX0_upperComponent 13 = .ok (.invokevirtual 154, 3) := by decide +kernel
theorem dX0_upperComponent_16 : decode cX0_upperComponent 16 = .ok (.invokevirtual 135, 3) := by decide +kernel
theorem dX0_upperComponent_19 : decode cX0_upperComponent 19 = .ok (.invokevirtual 151, 3) := by decide +kernel
theorem dX0_upperComponent_22 : decode cX0_upperComponent 22 = .ok (.ireturn, 1) := by decide +kernel
set_option maxRecDepth 20000 in
theorem ggX0_sumOfOwnSigns_X0_sumOfSignsUnder : GoodIn wsX0_sumOfOwnSigns wsX0_sumOfSignsUnder := goodIn_r _ [5, 6, 7, 8, 9, 10, 11, 12, 13, 14, 15, 4, 16, 17, 18, 19, 20, 21, 22, 23, 24, 25, 26, 27, 28, 29, 30, 31, 32, 33, 34, 35, 36, 37, 38, 39, 40, 41, 42, 43, 44, 45, 46, 47, 48, 49, 50, 51, 52, 53, 54, 55, 56, 57, 58, 59, 60, 61, 62, 63, 64, 65, 66, 67, 68, 69, 70, 71, 72, 73, 74, 75, 76, 77, 78, 79, 80] (by decide +kernel) (by decide +kernel)
set_option maxRecDepth 20000 in
theorem gX0_sumOfOwnSigns_X0_sumOfSignsUnder : GoodIn wsX0_sumOfOwnSigns (wsV RX0 157 RX0 yX0_sumOfSignsUnder wsX0_sumOfSignsUnder) := goodIn_app (goodIn_of _ (by decide +kernel)) ggX0_sumOfOwnSigns_X0_sumOfSignsUnder
theorem dX0_sumOfOwnSigns_0 : decode cX0_sumOfOwnSigns 0 = .ok (.aload_n 0, 1) := by decide +kernel
theorem dX0_sumOfOwnSigns_1 : decode cX0_sumOfOwnSigns 1 = .ok (.iload_n 1, 1) := by decide +kernel
theorem dX0_sumOfOwnSigns_2 : decode cX0_sumOfOwnSigns 2 = .ok (.iload_n 1, 1) := by decide +kernel
theorem dX0_sumOfOwnSigns_3 : decode cX0_sumOfOwnSigns 3 = .ok (.invokevirtual 157, 3) := by decide +kernel
theorem dX0_sumOfOwnSigns_6 : decode cX0_sumOfOwnSigns 6 = .ok (.ireturn, 1) := by decide +kernel
set_option maxRecDepth 20000 in
theorem ggX0_linking_X0_sumOfSignsUnder : GoodIn wsX0_linking wsX0_sumOfSignsUnder := goodIn_r _ [5, 6, 7, 8, 9, 10, 11, 12, 13, 14, 15, 4, 16, 17, 18, 19, 20, 21, 22, 23, 24, 25, 26, 27, 28, 29, 30, 31, 32, 33, 34, 35, 36, 37, 38, 39, 40, 41, 42, 43, 44, 45, 46, 47, 48, 49, 50, 51, 52, 53, 54, 55, 56, 57, 58, 59, 60, 61, 62, 63, 64, 65, 66, 67, 68, 69, 70, 71, 72, 73, 74, 75, 76, 77, 78, 79, 80] (by decide +kernel) (by decide +kernel)
set_option maxRecDepth 20000 in
theorem gX0_linking_X0_sumOfSignsUnder : GoodIn wsX0_linking (wsV RX0 157 RX0 yX0_sumOfSignsUnder wsX0_sumOfSignsUnder) := goodIn_app (goodIn_of _ (by decide +kernel)) ggX0_linking_X0_sumOfSignsUnder
theorem dX0_linking_0 : decode cX0_linking 0 = .ok (.iload_n 1, 1) := by decide +kernel
theorem dX0_linking_1 : decode cX0_linking 1 = .ok (.iload_n 2, 1) := by decide +kernel
theorem dX0_linking_2 : decode cX0_linking 2 = .ok (.if_icmp .ne 5, 3) := by decide +kernel
theorem dX0_linking_5 : decode cX0_linking 5 = .ok (.iconst 0, 1) := by decide +kernel
theorem dX0_linking_6 : decode cX0_linking 6 = .ok (.ireturn, 1) := by decide +kernel
theorem dX0_linking_7 : decode cX0_linking 7 = .ok (.aload_n 0, 1) := by decide +kernel
theorem dX0_linking_8 : decode cX0_linking 8 = .ok (.iload_n 1, 1) := by decide +kernel
theorem dX0_linking_9 : decode cX0_linking 9 = .ok (.iload_n 2, 1) := by decide +kernel
theorem dX0_linking_10 : decode cX0_linking 10 = .ok (.invokevirtual 157, 3) := by decide +kernel
theorem dX0_linking_13 : decode cX0_linking 13 = .ok (.aload_n 0, 1) := by decide +kernel
theorem dX0_linking_14 : decode cX0_linking 14 = .ok (.iload_n 2, 1) := by decide +kernel
theorem dX0_linking_15 : decode cX0_linking 15 = .ok (.iload_n 1, 1) := by decide +kernel
theorem dX0_linking_16 : decode cX0_linking 16 = .ok (.invokevirtual 157, 3) := by decide +kernel
theorem dX0_linking_19 : decode cX0_linking 19 = .ok (.iadd, 1) := by decide +kernel
theorem dX0_linking_20 : decode cX0_linking 20 = .ok (.iconst 2, 1) := by decide +kernel
theorem dX0_linking_21 : decode cX0_linking 21 = .ok (.idiv, 1) := by decide +kernel
theorem dX0_linking_22 : decode cX0_linking 22 = .ok (.ireturn, 1) := by decide +kernel
set_option maxRecDepth 20000 in
theorem ggX0_sumOfSignsUnder_X4_crossings : GoodIn wsX0_sumOfSignsUnder wsX4_crossings := goodIn_r _ [6, 7, 62, 63, 64] (by decide +kernel) (by decide +kernel)
set_option maxRecDepth 20000 in
theorem gX0_sumOfSignsUnder_X4_crossings : GoodIn wsX0_sumOfSignsUnder (wsV RX0 79 RX4 yX4_crossings wsX4_crossings) := goodIn_app (goodIn_of _ (by decide +kernel)) ggX0_sumOfSignsUnder_X4_crossings
set_option maxRecDepth 20000 in
theorem ggX0_sumOfSignsUnder_X0_lowerComponent : GoodIn wsX0_sumOfSignsUnder wsX0_lowerComponent := goodIn_r _ [12, 13, 14, 15, 16, 5, 17, 18, 19, 20, 21, 22, 23, 24, 25, 26, 27, 28, 29, 30, 31, 32, 33, 34, 53, 54, 55, 56, 57, 58, 59, 60, 61, 65, 66, 67, 68, 69, 70, 71, 72, 73, 74, 75, 76] (by decide +kernel) (by decide +kernel)
set_option maxRecDepth 20000 in
theorem gX0_sumOfSignsUnder_X0_lowerComponent : GoodIn wsX0_sumOfSignsUnder (wsV RX0 161 RX0 yX0_lowerComponent wsX0_lowerComponent) := goodIn_app (goodIn_of _ (by decide +kernel)) ggX0_sumOfSignsUnder_X0_lowerComponent
set_option maxRecDepth 20000 in
theorem ggX0_sumOfSignsUnder_X0_upperComponent : GoodIn wsX0_sumOfSignsUnder wsX0_upperComponent := goodIn_r _ [38, 13, 14, 1, 39, 40, 41, 5, 42, 43, 44, 45, 46, 47, 48, 49, 50, 51, 7, 18, 19, 20, 21, 22, 23, 24, 25, 26, 27, 28, 29, 30, 31, 32, 33, 34, 53, 54, 55, 56, 57, 58, 59, 60, 61, 62, 63, 64, 65, 66, 67, 68, 69, 70, 71, 72, 73, 74, 75, 76] (by decide +kernel) (by decide +kernel)
set_option maxRecDepth 20000 in
theorem gX0_sumOfSignsUnder_X0_upperComponent : GoodIn wsX0_sumOfSignsUnder (wsV RX0 164 RX0 yX0_upperComponent wsX0_upperComponent) := goodIn_app (goodIn_of _ (by decide +kernel)) ggX0_sumOfSignsUnder_X0_upperComponent
set_option maxRecDepth 20000 in
theorem ggX0_sumOfSignsUnder_X4_sign : GoodIn wsX0_sumOfSignsUnder wsX4_sign := goodIn_r _ [46, 47, 48, 49, 50, 5, 51, 7, 62, 63, 64] (by decide +kernel) (by decide +kernel)
set_option maxRecDepth 20000 in
theorem gX0_sumOfSignsUnder_X4_sign : GoodIn wsX0_sumOfSignsUnder (wsV RX0 167 RX4 yX4_sign wsX4_sign) := goodIn_app (goodIn_of _ (by decide +kernel)) ggX0_sumOfSignsUnder_X4_sign
theorem dX0_sumOfSignsUnder_0 : decode cX0_sumOfSignsUnder 0 = .ok (.iconst 0, 1) := by decide +kernel
theorem dX0_sumOfSignsUnder_1 : decode cX0_sumOfSignsUnder 1 = .ok (.istore_n 3, 1) := by decide +kernel
theorem dX0_sumOfSignsUnder_2 : decode cX0_sumOfSignsUnder 2 = .ok (.iconst 0, 1) := by decide +kernel
theorem dX0_sumOfSignsUnder_3 : decode cX0_sumOfSignsUnder 3 = .ok (.istore 4, 2) := by decide +kernel
theorem dX0_sumOfSignsUnder_5 : decode cX0_sumOfSignsUnder 5 = .ok (.iload 4, 2) := by decide +kernel
theorem dX0_sumOfSignsUnder_7 : decode cX0_sumOfSignsUnder 7 = .ok (.aload_n 0, 1) := by decide +kernel
theorem dX0_sumOfSignsUnder_8 : decode cX0_sumOfSignsUnder 8 = .ok (.getfield 12, 3) := by decide +kernel
theorem dX0_sumOfSignsUnder_11 : decode cX0_sumOfSignsUnder 11 = .ok (.invokevirtual 79, 3) := by decide +kernel
theorem dX0_sumOfSignsUnder_14 : decode cX0_sumOfSignsUnder 14 = .ok (.if_icmp .ge 41, 3) := by decide +kernel
theorem dX0_sumOfSignsUnder_17 : decode cX0_sumOfSignsUnder 17 = .ok (.aload_n 0, 1) := by decide +kernel
theorem dX0_sumOfSignsUnder_18 : decode cX0_sumOfSignsUnder 18 = .ok (.iload 4, 2) := by decide +kernel
theorem dX0_sumOfSignsUnder_20 : decode cX0_sumOfSignsUnder 20 = .ok (.invokevirtual 161, 3) := by decide +kernel
theorem dX0_sumOfSignsUnder_23 : decode cX0_sumOfSignsUnder 23 = .ok (.iload_n 1, 1) := by decide +kernel
theorem dX0_sumOfSignsUnder_24 : decode cX0_sumOfSignsUnder 24 = .ok (.if_icmp .ne 25, 3) := by decide +kernel
theorem dX0_sumOfSignsUnder_27 : decode cX0_sumOfSignsUnder 27 = .ok (.aload_n 0, 1) := by decide +kernel
theorem dX0_sumOfSignsUnder_28 : decode cX0_sumOfSignsUnder 28 = .ok (.iload 4, 2) := by decide +kernel
theorem dX0_sumOfSignsUnder_30 : decode cX0_sumOfSignsUnder 30 = .ok (.invokevirtual 164, 3) := by decide +kernel
theorem dX0_sumOfSignsUnder_33 : decode cX0_sumOfSignsUnder 33 = .ok (.iload_n 2, 1) := by decide +kernel
theorem dX0_sumOfSignsUnder_34 : decode cX0_sumOfSignsUnder 34 = .ok (.if_icmp .ne 15, 3) := by decide +kernel
theorem dX0_sumOfSignsUnder_37 : decode cX0_sumOfSignsUnder 37 = .ok (.iload_n 3, 1) := by decide +kernel
theorem dX0_sumOfSignsUnder_38 : decode cX0_sumOfSignsUnder 38 = .ok (.aload_n 0, 1) := by decide +kernel
theorem dX0_sumOfSignsUnder_39 : decode cX0_sumOfSignsUnder 39 = .ok (.getfield 12, 3) := by decide +kernel
theorem dX0_sumOfSignsUnder_42 : decode cX0_sumOfSignsUnder 42 = .ok (.iload 4, 2) := by decide +kernel
theorem dX0_sumOfSignsUnder_44 : decode cX0_sumOfSignsUnder 44 = .ok (.invokevirtual 167, 3) := by decide +kernel
theorem dX0_sumOfSignsUnder_47 : decode cX0_sumOfSignsUnder 47 = .ok (.iadd, 1) := by decide +kernel
theorem dX0_sumOfSignsUnder_48 : decode cX0_sumOfSignsUnder 48 = .ok (.istore_n 3, 1) := by decide +kernel
theorem dX0_sumOfSignsUnder_49 : decode cX0_sumOfSignsUnder 49 = .ok (.iinc 4 1, 3) := by decide +kernel
theorem dX0_sumOfSignsUnder_52 : decode cX0_sumOfSignsUnder 52 = .ok (.goto (-47), 3) := by decide +kernel
theorem dX0_sumOfSignsUnder_55 : decode cX0_sumOfSignsUnder 55 = .ok (.iload_n 3, 1) := by decide +kernel
theorem dX0_sumOfSignsUnder_56 : decode cX0_sumOfSignsUnder 56 = .ok (.ireturn, 1) := by decide +kernel
set_option maxRecDepth 20000 in
theorem ggX0_turnComponent_X4_crossings : GoodIn wsX0_turnComponent wsX4_crossings := goodIn_r _ [6, 7, 74, 75, 76] (by decide +kernel) (by decide +kernel)
set_option maxRecDepth 20000 in
theorem gX0_turnComponent_X4_crossings : GoodIn wsX0_turnComponent (wsV RX0 79 RX4 yX4_crossings wsX4_crossings) := goodIn_app (goodIn_of _ (by decide +kernel)) ggX0_turnComponent_X4_crossings
set_option maxRecDepth 20000 in
theorem ggX0_turnComponent_X0_lowerComponent : GoodIn wsX0_turnComponent wsX0_lowerComponent := goodIn_r _ [12, 13, 14, 15, 16, 5, 17, 18, 19, 20, 21, 22, 23, 24, 25, 26, 27, 28, 29, 30, 31, 32, 33, 34, 65, 66, 67, 68, 69, 70, 71, 72, 73, 77, 78, 79, 80, 81, 82, 83, 84, 85, 86, 87, 88] (by decide +kernel) (by decide +kernel)
set_option maxRecDepth 20000 in
theorem gX0_turnComponent_X0_lowerComponent : GoodIn wsX0_turnComponent (wsV RX0 161 RX0 yX0_lowerComponent wsX0_lowerComponent) := goodIn_app (goodIn_of _ (by decide +kernel)) ggX0_turnComponent_X0_lowerComponent
set_option maxRecDepth 20000 in
theorem ggX0_turnComponent_X0_upperComponent : GoodIn wsX0_turnComponent wsX0_upperComponent := goodIn_r _ [38, 13, 14, 1, 39, 40, 41, 5, 42, 43, 44, 45, 46, 47, 48, 49, 50, 51, 7, 18, 19, 20, 21, 22, 23, 24, 25, 26, 27, 28, 29, 30, 31, 32, 33, 34, 65, 66, 67, 68, 69, 70, 71, 72, 73, 74, 75, 76, 77, 78, 79, 80, 81, 82, 83, 84, 85, 86, 87, 88] (by decide +kernel) (by decide +kernel)
set_option maxRecDepth 20000 in
theorem gX0_turnComponent_X0_upperComponent : GoodIn wsX0_turnComponent (wsV RX0 164 RX0 yX0_upperComponent wsX0_upperComponent) := goodIn_app (goodIn_of _ (by decide +kernel)) ggX0_turnComponent_X0_upperComponent
set_option maxRecDepth 20000 in
theorem ggX0_turnComponent_X4_turnStrands : GoodIn wsX0_turnComponent wsX4_turnStrands := goodIn_r _ [55, 56, 57, 58, 5, 59, 60, 48, 49, 50, 51, 7, 61, 62, 63, 64, 47, 74, 75, 76] (by decide +kernel) (by decide +kernel)
set_option maxRecDepth 20000 in
theorem gX0_turnComponent_X4_turnStrands : GoodIn wsX0_turnComponent (wsV RX0 170 RX4 yX4_turnStrands wsX4_turnStrands) := goodIn_app (goodIn_of _ (by decide +kernel)) ggX0_turnComponent_X4_turnStrands
theorem dX0_turnComponent_0 : decode cX0_turnComponent 0 = .ok (.iconst 0, 1) := by decide +kernel
theorem dX0_turnComponent_1 : decode cX0_turnComponent 1 = .ok (.istore_n 2, 1) := by decide +kernel
theorem dX0_turnComponent_2 : decode cX0_turnComponent 2 = .ok (.iload_n 2, 1) := by decide +kernel
theorem dX0_turnComponent_3 : decode cX0_turnComponent 3 = .ok (.aload_n 0, 1) := by decide +kernel
theorem dX0_turnComponent_4 : decode cX0_turnComponent 4 = .ok (.getfield 12, 3) := by decide +kernel
theorem dX0_turnComponent_7 : decode cX0_turnComponent 7 = .ok (.invokevirtual 79, 3) := by decide +kernel
theorem dX0_turnComponent_10 : decode cX0_turnComponent 10 = .ok (.if_icmp .ge 45, 3) := by decide +kernel
theorem dX0_turnComponent_13 : decode cX0_turnComponent 13 = .ok (.aload_n 0, 1) := by decide +kernel
theorem dX0_turnComponent_14 : decode cX0_turnComponent 14 = .ok (.getfield 12, 3) := by decide +kernel
theorem dX0_turnComponent_17 : decode cX0_turnComponent 17 = .ok (.iload_n 2, 1) := by decide +kernel
theorem dX0_turnComponent_18 : decode cX0_turnComponent 18 = .ok (.aload_n 0, 1) := by decide +kernel
theorem dX0_turnComponent_19 : decode cX0_turnComponent 19 = .ok (.iload_n 2, 1) := by decide +kernel
theorem dX0_turnComponent_20 : decode cX0_turnComponent 20 = .ok (.invokevirtual 161, 3) := by decide +kernel
theorem dX0_turnComponent_23 : decode cX0_turnComponent 23 = .ok (.iload_n 1, 1) := by decide +kernel
theorem dX0_turnComponent_24 : decode cX0_turnComponent 24 = .ok (.if_icmp .ne 7, 3) := by decide +kernel
theorem dX0_turnComponent_27 : decode cX0_turnComponent 27 = .ok (.iconst 1, 1) := by decide +kernel
theorem dX0_turnComponent_28 : decode cX0_turnComponent 28 = .ok (.goto 4, 3) := by decide +kernel
theorem dX0_turnComponent_31 : decode cX0_turnComponent 31 = .ok (.iconst 0, 1) := by decide +kernel
theorem dX0_turnComponent_32 : decode cX0_turnComponent 32 = .ok (.aload_n 0, 1) := by decide +kernel
theorem dX0_turnComponent_33 : decode cX0_turnComponent 33 = .ok (.iload_n 2, 1) := by decide +kernel
theorem dX0_turnComponent_34 : decode cX0_turnComponent 34 = .ok (.invokevirtual 164, 3) := by decide +kernel
theorem dX0_turnComponent_37 : decode cX0_turnComponent 37 = .ok (.iload_n 1, 1) := by decide +kernel
theorem dX0_turnComponent_38 : decode cX0_turnComponent 38 = .ok (.if_icmp .ne 7, 3) := by decide +kernel
theorem dX0_turnComponent_41 : decode cX0_turnComponent 41 = .ok (.iconst 1, 1) := by decide +kernel
theorem dX0_turnComponent_42 : decode cX0_turnComponent 42 = .ok (.goto 4, 3) := by decide +kernel
theorem dX0_turnComponent_45 : decode cX0_turnComponent 45 = .ok (.iconst 0, 1) := by decide +kernel
theorem dX0_turnComponent_46 : decode cX0_turnComponent 46 = .ok (.invokevirtual 170, 3) := by decide +kernel
theorem dX0_turnComponent_49 : decode cX0_turnComponent 49 = .ok (.iinc 2 1, 3) := by decide +kernel
theorem dX0_turnComponent_52 : decode cX0_turnComponent 52 = .ok (.goto (-50), 3) := by decide +kernel
theorem dX0_turnComponent_55 : decode cX0_turnComponent 55 = .ok (.return_, 1) := by decide +kernel
set_option maxRecDepth 20000 in
theorem ggX0_labelAnew_X0_chooseNewLabels : GoodIn wsX0_labelAnew wsX0_chooseNewLabels := goodIn_r _ [8, 9, 3, 10, 11, 12, 13, 14, 15, 16, 17, 18, 19, 20, 21, 22, 23, 24, 25, 26, 27, 28, 29, 30, 31, 32, 33, 34, 35, 36, 37, 38, 39, 58, 59, 60, 61, 62, 63, 64, 65, 66, 67, 68, 69, 70, 71, 72] (by decide +kernel) (by decide +kernel)
set_option maxRecDepth 20000 in
theorem gX0_labelAnew_X0_chooseNewLabels : GoodIn wsX0_labelAnew (wsV RX0 174 RX0 yX0_chooseNewLabels wsX0_chooseNewLabels) := goodIn_app (goodIn_of _ (by decide +kernel)) ggX0_labelAnew_X0_chooseNewLabels
set_option maxRecDepth 20000 in
theorem ggX0_labelAnew_X4_spots : GoodIn wsX0_labelAnew wsX4_spots := goodIn_r _ [44, 45, 73, 74, 75] (by decide +kernel) (by decide +kernel)
set_option maxRecDepth 20000 in
theorem gX0_labelAnew_X4_spots : GoodIn wsX0_labelAnew (wsV RX0 177 RX4 yX4_spots wsX4_spots) := goodIn_app (goodIn_of _ (by decide +kernel)) ggX0_labelAnew_X4_spots
set_option maxRecDepth 20000 in
theorem ggX0_labelAnew_X1_at : GoodIn wsX0_labelAnew wsX1_at := goodIn_r _ [50, 51, 76, 77, 78, 79, 80, 81] (by decide +kernel) (by decide +kernel)
set_option maxRecDepth 20000 in
theorem gX0_labelAnew_X1_at : GoodIn wsX0_labelAnew (wsV RX0 135 RX1 yX1_at wsX1_at) := goodIn_app (goodIn_of _ (by decide +kernel)) ggX0_labelAnew_X1_at
set_option maxRecDepth 20000 in
theorem ggX0_labelAnew_X4_setLabel : GoodIn wsX0_labelAnew wsX4_setLabel := goodIn_r _ [55, 56, 57, 41, 42, 43, 44, 45, 73, 74, 75] (by decide +kernel) (by decide +kernel)
set_option maxRecDepth 20000 in
theorem gX0_labelAnew_X4_setLabel : GoodIn wsX0_labelAnew (wsV RX0 180 RX4 yX4_setLabel wsX4_setLabel) := goodIn_app (goodIn_of _ (by decide +kernel)) ggX0_labelAnew_X4_setLabel
theorem dX0_labelAnew_0 : decode cX0_labelAnew 0 = .ok (.aload_n 0, 1) := by decide +kernel
theorem dX0_labelAnew_1 : decode cX0_labelAnew 1 = .ok (.invokevirtual 174, 3) := by decide +kernel
theorem dX0_labelAnew_4 : decode cX0_labelAnew 4 = .ok (.iconst 0, 1) := by decide +kernel
theorem dX0_labelAnew_5 : decode cX0_labelAnew 5 = .ok (.istore_n 1, 1) := by decide +kernel
theorem dX0_labelAnew_6 : decode cX0_labelAnew 6 = .ok (.iload_n 1, 1) := by decide +kernel
theorem dX0_labelAnew_7 : decode cX0_labelAnew 7 = .ok (.aload_n 0, 1) := by decide +kernel
theorem dX0_labelAnew_8 : decode cX0_labelAnew 8 = .ok (.getfield 12, 3) := by decide +kernel
theorem dX0_labelAnew_11 : decode cX0_labelAnew 11 = .ok (.invokevirtual 177, 3) := by decide +kernel
theorem dX0_labelAnew_14 : decode cX0_labelAnew 14 = .ok (.if_icmp .ge 42, 3) := by decide +kernel
theorem dX0_labelAnew_17 : decode cX0_labelAnew 17 = .ok (.aload_n 0, 1) := by decide +kernel
theorem dX0_labelAnew_18 : decode cX0_labelAnew 18 = .ok (.getfield 21, 3) := by decide +kernel
theorem dX0_labelAnew_21 : decode cX0_labelAnew 21 = .ok (.iload_n 1, 1) := by decide +kernel
theorem dX0_labelAnew_22 : decode cX0_labelAnew 22 = .ok (.invokevirtual 135, 3) := by decide +kernel
theorem dX0_labelAnew_25 : decode cX0_labelAnew 25 = .ok (.istore_n 2, 1) := by decide +kernel
theorem dX0_labelAnew_26 : decode cX0_labelAnew 26 = .ok (.iload_n 2, 1) := by decide +kernel
theorem dX0_labelAnew_27 : decode cX0_labelAnew 27 = .ok (.ifCond .lt 23, 3) := by decide +kernel
theorem dX0_labelAnew_30 : decode cX0_labelAnew 30 = .ok (.iload_n 2, 1) := by decide +kernel
theorem dX0_labelAnew_31 : decode cX0_labelAnew 31 = .ok (.bipush 40, 2) := by decide +kernel
theorem dX0_labelAnew_33 : decode cX0_labelAnew 33 = .ok (.if_icmp .ge 17, 3) := by decide +kernel
theorem dX0_labelAnew_36 : decode cX0_labelAnew 36 = .ok (.aload_n 0, 1) := by decide +kernel
theorem dX0_labelAnew_37 : decode cX0_labelAnew 37 = .ok (.getfield 12, 3) := by decide +kernel
theorem dX0_labelAnew_40 : decode cX0_labelAnew 40 = .ok (.iload_n 1, 1) := by decide +kernel
theorem dX0_labelAnew_41 : decode cX0_labelAnew 41 = .ok (.aload_n 0, 1) := by decide +kernel
theorem dX0_labelAnew_42 : decode cX0_labelAnew 42 = .ok (.getfield 48, 3) := by decide +kernel
theorem dX0_labelAnew_45 : decode cX0_labelAnew 45 = .ok (.iload_n 2, 1) := by decide +kernel
theorem dX0_labelAnew_46 : decode cX0_labelAnew 46 = .ok (.iaload, 1) := by decide +kernel
theorem dX0_labelAnew_47 : decode cX0_labelAnew 47 = .ok (.invokevirtual 180, 3) := by decide +kernel
theorem dX0_labelAnew_50 : decode cX0_labelAnew 50 = .ok (.iinc 1 1, 3) := by decide +kernel
theorem dX0_labelAnew_53 : decode cX0_labelAnew 53 = .ok (.goto (-47), 3) := by decide +kernel
theorem dX0_labelAnew_56 : decode cX0_labelAnew 56 = .ok (.return_, 1) := by decide +kernel
set_option maxRecDepth 20000 in
theorem ggX0_chooseNewLabels_X3_count : GoodIn wsX0_chooseNewLabels wsX3_count := goodIn_r _ [7, 8, 42, 43, 44, 45, 46, 47] (by decide +kernel) (by decide +kernel)
set_option maxRecDepth 20000 in
theorem gX0_chooseNewLabels_X3_count : GoodIn wsX0_chooseNewLabels (wsV RX0 125 RX3 yX3_count wsX3_count) := goodIn_app (goodIn_of _ (by decide +kernel)) ggX0_chooseNewLabels_X3_count
set_option maxRecDepth 20000 in
theorem ggX0_chooseNewLabels_X3_first : GoodIn wsX0_chooseNewLabels wsX3_first := goodIn_r _ [12, 13, 14, 15, 16, 6, 17, 8, 42, 43, 44, 45, 46, 47] (by decide +kernel) (by decide +kernel)
set_option maxRecDepth 20000 in
theorem gX0_chooseNewLabels_X3_first : GoodIn wsX0_chooseNewLabels (wsV RX0 126 RX3 yX3_first wsX3_first) := goodIn_app (goodIn_of _ (by decide +kernel)) ggX0_chooseNewLabels_X3_first
set_option maxRecDepth 20000 in
theorem ggX0_chooseNewLabels_X3_size : GoodIn wsX0_chooseNewLabels wsX3_size := goodIn_r _ [21, 22, 14, 15, 16, 6, 17, 8, 42, 43, 44, 45, 46, 47] (by decide +kernel) (by decide +kernel)
set_option maxRecDepth 20000 in
theorem gX0_chooseNewLabels_X3_size : GoodIn wsX0_chooseNewLabels (wsV RX0 183 RX3 yX3_size wsX3_size) := goodIn_app (goodIn_of _ (by decide +kernel)) ggX0_chooseNewLabels_X3_size
set_option maxRecDepth 20000 in
theorem ggX0_chooseNewLabels_X3_next : GoodIn wsX0_chooseNewLabels wsX3_next := goodIn_r _ [26, 27, 28, 29, 30, 6, 31, 32, 42, 43, 44, 45, 46, 47] (by decide +kernel) (by decide +kernel)
set_option maxRecDepth 20000 in
theorem gX0_chooseNewLabels_X3_next : GoodIn wsX0_chooseNewLabels (wsV RX0 145 RX3 yX3_next wsX3_next) := goodIn_app (goodIn_of _ (by decide +kernel)) ggX0_chooseNewLabels_X3_next
theorem dX0_chooseNewLabels_0 : decode cX0_chooseNewLabels 0 = .ok (.iconst 1, 1) := by decide +kernel
theorem dX0_chooseNewLabels_1 : decode cX0_chooseNewLabels 1 = .ok (.istore_n 1, 1) := by decide +kernel
theorem dX0_chooseNewLabels_2 : decode cX0_chooseNewLabels 2 = .ok (.iconst 0, 1) := by decide +kernel
theorem dX0_chooseNewLabels_3 : decode cX0_chooseNewLabels 3 = .ok (.istore_n 2, 1) := by decide +kernel
theorem dX0_chooseNewLabels_4 : decode cX0_chooseNewLabels 4 = .ok (.iload_n 2, 1) := by decide +kernel
theorem dX0_chooseNewLabels_5 : decode cX0_chooseNewLabels 5 = .ok (.aload_n 0, 1) := by decide +kernel
theorem dX0_chooseNewLabels_6 : decode cX0_chooseNewLabels 6 = .ok (.getfield 38, 3) := by decide +kernel
theorem dX0_chooseNewLabels_9 : decode cX0_chooseNewLabels 9 = .ok (.invokevirtual 125, 3) := by decide +kernel
theorem dX0_chooseNewLabels_12 : decode cX0_chooseNewLabels 12 = .ok (.if_icmp .ge 69, 3) := by decide +kernel
theorem dX0_chooseNewLabels_15 : decode cX0_chooseNewLabels 15 = .ok (.aload_n 0, 1) := by decide +kernel
theorem dX0_chooseNewLabels_16 : decode cX0_chooseNewLabels 16 = .ok (.getfield 38, 3) := by decide +kernel
theorem dX0_chooseNewLabels_19 : decode cX0_chooseNewLabels 19 = .ok (.iload_n 2, 1) := by decide +kernel
theorem dX0_chooseNewLabels_20 : decode cX0_chooseNewLabels 20 = .ok (.invokevirtual 126, 3) := by decide +kernel
theorem dX0_chooseNewLabels_23 : decode cX0_chooseNewLabels 23 = .ok (.istore_n 3, 1) := by decide +kernel
theorem dX0_chooseNewLabels_24 : decode cX0_chooseNewLabels 24 = .ok (.iconst 0, 1) := by decide +kernel
theorem dX0_chooseNewLabels_25 : decode cX0_chooseNewLabels 25 = .ok (.istore 4, 2) := by decide +kernel
theorem dX0_chooseNewLabels_27 : decode cX0_chooseNewLabels 27 = .ok (.iload 4, 2) := by decide +kernel
theorem dX0_chooseNewLabels_29 : decode cX0_chooseNewLabels 29 = .ok (.aload_n 0, 1) := by decide +kernel
theorem dX0_chooseNewLabels_30 : decode cX0_chooseNewLabels 30 = .ok (.getfield 38, 3) := by decide +kernel
theorem dX0_chooseNewLabels_33 : decode cX0_chooseNewLabels 33 = .ok (.iload_n 2, 1) := by decide +kernel
theorem dX0_chooseNewLabels_34 : decode cX0_chooseNewLabels 34 = .ok (.invokevirtual 183, 3) := by decide +kernel
theorem dX0_chooseNewLabels_37 : decode cX0_chooseNewLabels 37 = .ok (.if_icmp .ge 38, 3) := by decide +kernel
theorem dX0_chooseNewLabels_40 : decode cX0_chooseNewLabels 40 = .ok (.iload_n 3, 1) := by decide +kernel
theorem dX0_chooseNewLabels_41 : decode cX0_chooseNewLabels 41 = .ok (.ifCond .lt 16, 3) := by decide +kernel
theorem dX0_chooseNewLabels_44 : decode cX0_chooseNewLabels 44 = .ok (.iload_n 3, 1) := by decide +kernel
theorem dX0_chooseNewLabels_45 : decode cX0_chooseNewLabels 45 = .ok (.bipush 40, 2) := by decide +kernel
theorem dX0_chooseNewLabels_47 : decode cX0_chooseNewLabels 47 = .ok (.if_icmp .ge 10, 3) := by decide +kernel
theorem dX0_chooseNewLabels_50 : decode cX0_chooseNewLabels 50 = .ok (.aload_n 0, 1) := by decide +kernel
theorem dX0_chooseNewLabels_51 : decode cX0_chooseNewLabels 51 = .ok (.getfield 48, 3) := by decide +kernel
theorem dX0_chooseNewLabels_54 : decode cX0_chooseNewLabels 54 = .ok (.iload_n 3, 1) := by decide +kernel
theorem dX0_chooseNewLabels_55 : decode cX0_chooseNewLabels 55 = .ok (.iload_n 1, 1) := by decide +kernel
theorem dX0_chooseNewLabels_56 : decode cX0_chooseNewLabels 56 = .ok (.iastore, 1) := by decide +kernel
theorem dX0_chooseNewLabels_57 : decode cX0_chooseNewLabels 57 = .ok (.iinc 1 1, 3) := by decide +kernel
theorem dX0_chooseNewLabels_60 : decode cX0_chooseNewLabels 60 = .ok (.aload_n 0, 1) := by decide +kernel
theorem dX0_chooseNewLabels_61 : decode cX0_chooseNewLabels 61 = .ok (.getfield 38, 3) := by decide +kernel
theorem dX0_chooseNewLabels_64 : decode cX0_chooseNewLabels 64 = .ok (.iload_n 3, 1) := by decide +kernel
theorem dX0_chooseNewLabels_65 : decode cX0_chooseNewLabels 65 = .ok (.invokevirtual 145, 3) := by decide +kernel
theorem dX0_chooseNewLabels_68 : decode cX0_chooseNewLabels 68 = .ok (.istore_n 3, 1) := by decide +kernel
theorem dX0_chooseNewLabels_69 : decode cX0_chooseNewLabels 69 = .ok (.iinc 4 1, 3) := by decide +kernel
theorem dX0_chooseNewLabels_72 : decode cX0_chooseNewLabels 72 = .ok (.goto (-45), 3) := by decide +kernel
theorem dX0_chooseNewLabels_75 : decode cX0_chooseNewLabels 75 = .ok (.iinc 2 1, 3) := by decide +kernel
theorem dX0_chooseNewLabels_78 : decode cX0_chooseNewLabels 78 = .ok (.goto (-74), 3) := by decide +kernel
theorem dX0_chooseNewLabels_81 : decode cX0_chooseNewLabels 81 = .ok (.return_, 1) := by decide +kernel
theorem dX1_init_0 : decode cX1_init 0 = .ok (.aload_n 0, 1) := by decide +kernel
theorem dX1_init_1 : decode cX1_init 1 = .ok (.invokespecial 3, 3) := by decide +kernel
theorem dX1_init_4 : decode cX1_init 4 = .ok (.aload_n 0, 1) := by decide +kernel
theorem dX1_init_5 : decode cX1_init 5 = .ok (.bipush 80, 2) := by decide +kernel
theorem dX1_init_7 : decode cX1_init 7 = .ok (.newarray .int, 2) := by decide +kernel
theorem dX1_init_9 : decode cX1_init 9 = .ok (.putfield 9, 3) := by decide +kernel
theorem dX1_init_12 : decode cX1_init 12 = .ok (.aload_n 0, 1) := by decide +kernel
theorem dX1_init_13 : decode cX1_init 13 = .ok (.bipush 80, 2) := by decide +kernel
theorem dX1_init_15 : decode cX1_init 15 = .ok (.newarray .int, 2) := by decide +kernel
theorem dX1_init_17 : decode cX1_init 17 = .ok (.putfield 15, 3) := by decide +kernel
theorem dX1_init_20 : decode cX1_init 20 = .ok (.aload_n 0, 1) := by decide +kernel
theorem dX1_init_21 : decode cX1_init 21 = .ok (.bipush 80, 2) := by decide +kernel
theorem dX1_init_23 : decode cX1_init 23 = .ok (.newarray .int, 2) := by decide +kernel
theorem dX1_init_25 : decode cX1_init 25 = .ok (.putfield 18, 3) := by decide +kernel
theorem dX1_init_28 : decode cX1_init 28 = .ok (.aload_n 0, 1) := by decide +kernel
theorem dX1_init_29 : decode cX1_init 29 = .ok (.bipush 80, 2) := by decide +kernel
theorem dX1_init_31 : decode cX1_init 31 = .ok (.newarray .int, 2) := by decide +kernel
theorem dX1_init_33 : decode cX1_init 33 = .ok (.putfield 21, 3) := by decide +kernel
theorem dX1_init_36 : decode cX1_init 36 = .ok (.aload_n 0, 1) := by decide +kernel
theorem dX1_init_37 : decode cX1_init 37 = .ok (.bipush 80, 2) := by decide +kernel
theorem dX1_init_39 : decode cX1_init 39 = .ok (.newarray .int, 2) := by decide +kernel
theorem dX1_init_41 : decode cX1_init 41 = .ok (.putfield 24, 3) := by decide +kernel
theorem dX1_init_44 : decode cX1_init 44 = .ok (.aload_n 0, 1) := by decide +kernel
theorem dX1_init_45 : decode cX1_init 45 = .ok (.iconst 0, 1) := by decide +kernel
theorem dX1_init_46 : decode cX1_init 46 = .ok (.putfield 27, 3) := by decide +kernel
theorem dX1_init_49 : decode cX1_init 49 = .ok (.return_, 1) := by decide +kernel
theorem dX1_count_0 : decode cX1_count 0 = .ok (.aload_n 0, 1) := by decide +kernel
theorem dX1_count_1 : decode cX1_count 1 = .ok (.getfield 27, 3) := by decide +kernel
theorem dX1_count_4 : decode cX1_count 4 = .ok (.ireturn, 1) := by decide +kernel
theorem dX1_has_0 : decode cX1_has 0 = .ok (.iload_n 1, 1) := by decide +kernel
theorem dX1_has_1 : decode cX1_has 1 = .ok (.ifCond .lt 15, 3) := by decide +kernel
theorem dX1_has_4 : decode cX1_has 4 = .ok (.iload_n 1, 1) := by decide +kernel
theorem dX1_has_5 : decode cX1_has 5 = .ok (.aload_n 0, 1) := by decide +kernel
theorem dX1_has_6 : decode cX1_has 6 = .ok (.getfield 27, 3) := by decide +kernel
theorem dX1_has_9 : decode cX1_has 9 = .ok (.if_icmp .ge 7, 3) := by decide +kernel
theorem dX1_has_12 : decode cX1_has 12 = .ok (.iconst 1, 1) := by decide +kernel
theorem dX1_has_13 : decode cX1_has 13 = .ok (.goto 4, 3) := by decide +kernel
theorem dX1_has_16 : decode cX1_has 16 = .ok (.iconst 0, 1) := by decide +kernel
theorem dX1_has_17 : decode cX1_has 17 = .ok (.ireturn, 1) := by decide +kernel
set_option maxRecDepth 20000 in
theorem ggX1_label_X1_has : GoodIn wsX1_label wsX1_has := goodIn_r _ [6, 7, 8, 9, 10, 11, 12, 13] (by decide +kernel) (by decide +kernel)
set_option maxRecDepth 20000 in
theorem gX1_label_X1_has : GoodIn wsX1_label (wsV RX1 31 RX1 yX1_has wsX1_has) := goodIn_app (goodIn_of _ (by decide +kernel)) ggX1_label_X1_has
theorem dX1_label_0 : decode cX1_label 0 = .ok (.aload_n 0, 1) := by decide +kernel
theorem dX1_label_1 : decode cX1_label 1 = .ok (.iload_n 1, 1) := by decide +kernel
theorem dX1_label_2 : decode cX1_label 2 = .ok (.invokevirtual 31, 3) := by decide +kernel
theorem dX1_label_5 : decode cX1_label 5 = .ok (.ifCond .eq 12, 3) := by decide +kernel
theorem dX1_label_8 : decode cX1_label 8 = .ok (.aload_n 0, 1) := by decide +kernel
theorem dX1_label_9 : decode cX1_label 9 = .ok (.getfield 9, 3) := by decide +kernel
theorem dX1_label_12 : decode cX1_label 12 = .ok (.iload_n 1, 1) := by decide +kernel
theorem dX1_label_13 : decode cX1_label 13 = .ok (.iaload, 1) := by decide +kernel
theorem dX1_label_14 : decode cX1_label 14 = .ok (.goto 4, 3) := by decide +kernel
theorem dX1_label_17 : decode cX1_label 17 = .ok (.iconst 0, 1) := by decide +kernel
theorem dX1_label_18 : decode cX1_label 18 = .ok (.ireturn, 1) := by decide +kernel
set_option maxRecDepth 20000 in
theorem ggX1_from_X1_has : GoodIn wsX1_from wsX1_has := goodIn_r _ [6, 7, 8, 9, 10, 11, 12, 13] (by decide +kernel) (by decide +kernel)
set_option maxRecDepth 20000 in
theorem gX1_from_X1_has : GoodIn wsX1_from (wsV RX1 31 RX1 yX1_has wsX1_has) := goodIn_app (goodIn_of _ (by decide +kernel)) ggX1_from_X1_has
theorem dX1_from_0 : decode cX1_from 0 = .ok (.aload_n 0, 1) := by decide +kernel
theorem dX1_from_1 : decode cX1_from 1 = .ok (.iload_n 1, 1) := by decide +kernel
theorem dX1_from_2 : decode cX1_from 2 = .ok (.invokevirtual 31, 3) := by decide +kernel
theorem dX1_from_5 : decode cX1_from 5 = .ok (.ifCond .eq 12, 3) := by decide +kernel
theorem dX1_from_8 : decode cX1_from 8 = .ok (.aload_n 0, 1) := by decide +kernel
theorem dX1_from_9 : decode cX1_from 9 = .ok (.getfield 18, 3) := by decide +kernel
theorem dX1_from_12 : decode cX1_from 12 = .ok (.iload_n 1, 1) := by decide +kernel
theorem dX1_from_13 : decode cX1_from 13 = .ok (.iaload, 1) := by decide +kernel
theorem dX1_from_14 : decode cX1_from 14 = .ok (.goto 4, 3) := by decide +kernel
theorem dX1_from_17 : decode cX1_from 17 = .ok (.iconst (-1), 1) := by decide +kernel
theorem dX1_from_18 : decode cX1_from 18 = .ok (.ireturn, 1) := by decide +kernel
set_option maxRecDepth 20000 in
theorem ggX1_to_X1_has : GoodIn wsX1_to wsX1_has := goodIn_r _ [6, 7, 8, 9, 10, 11, 12, 13] (by decide +kernel) (by decide +kernel)
set_option maxRecDepth 20000 in
theorem gX1_to_X1_has : GoodIn wsX1_to (wsV RX1 31 RX1 yX1_has wsX1_has) := goodIn_app (goodIn_of _ (by decide +kernel)) ggX1_to_X1_has
theorem dX1_to_0 : decode cX1_to 0 = .ok (.aload_n 0, 1) := by decide +kernel
theorem dX1_to_1 : decode cX1_to 1 = .ok (.iload_n 1, 1) := by decide +kernel
theorem dX1_to_2 : decode cX1_to 2 = .ok (.invokevirtual 31, 3) := by decide +kernel
theorem dX1_to_5 : decode cX1_to 5 = .ok (.ifCond .eq 12, 3) := by decide +kernel
theorem dX1_to_8 : decode cX1_to 8 = .ok (.aload_n 0, 1) := by decide +kernel
theorem dX1_to_9 : decode cX1_to 9 = .ok (.getfield 21, 3) := by decide +kernel
theorem dX1_to_12 : decode cX1_to 12 = .ok (.iload_n 1, 1) := by decide +kernel
theorem dX1_to_13 : decode cX1_to 13 = .ok (.iaload, 1) := by decide +kernel
theorem dX1_to_14 : decode cX1_to 14 = .ok (.goto 4, 3) := by decide +kernel
theorem dX1_to_17 : decode cX1_to 17 = .ok (.iconst (-1), 1) := by decide +kernel
theorem dX1_to_18 : decode cX1_to 18 = .ok (.ireturn, 1) := by decide +kernel
theorem dX1_at_0 : decode cX1_at 0 = .ok (.iload_n 1, 1) := by decide +kernel
theorem dX1_at_1 : decode cX1_at 1 = .ok (.ifCond .lt 18, 3) := by decide +kernel
theorem dX1_at_4 : decode cX1_at 4 = .ok (.iload_n 1, 1) := by decide +kernel
theorem dX1_at_5 : decode cX1_at 5 = .ok (.bipush 80, 2) := by decide +kernel
theorem dX1_at_7 : decode cX1_at 7 = .ok (.if_icmp .ge 12, 3) := by decide +kernel
theorem dX1_at_10 : decode cX1_at 10 = .ok (.aload_n 0, 1) := by decide +kernel
theorem dX1_at_11 : decode cX1_at 11 = .ok (.getfield 24, 3) := by decide +kernel
theorem dX1_at_14 : decode cX1_at 14 = .ok (.iload_n 1, 1) := by decide +kernel
theorem dX1_at_15 : decode cX1_at 15 = .ok (.iaload, 1) := by decide +kernel
theorem dX1_at_16 : decode cX1_at 16 = .ok (.goto 4, 3) := by decide +kernel
theorem dX1_at_19 : decode cX1_at 19 = .ok (.iconst (-1), 1) := by decide +kernel
theorem dX1_at_20 : decode cX1_at 20 = .ok (.ireturn, 1) := by decide +kernel
set_option maxRecDepth 20000 in
theorem ggX1_dartFrom_X1_at : GoodIn wsX1_dartFrom wsX1_at := goodIn_r _ [5, 6, 17, 18, 19, 20, 21, 22] (by decide +kernel) (by decide +kernel)
set_option maxRecDepth 20000 in
theorem gX1_dartFrom_X1_at : GoodIn wsX1_dartFrom (wsV RX1 35 RX1 yX1_at wsX1_at) := goodIn_app (goodIn_of _ (by decide +kernel)) ggX1_dartFrom_X1_at
set_option maxRecDepth 20000 in
theorem ggX1_dartFrom_X1_from : GoodIn wsX1_dartFrom wsX1_from := goodIn_r _ [10, 11, 12, 13, 14, 4, 15, 16, 17, 18, 19, 20, 21, 22] (by decide +kernel) (by decide +kernel)
set_option maxRecDepth 20000 in
theorem gX1_dartFrom_X1_from : GoodIn wsX1_dartFrom (wsV RX1 39 RX1 yX1_from wsX1_from) := goodIn_app (goodIn_of _ (by decide +kernel)) ggX1_dartFrom_X1_from
theorem dX1_dartFrom_0 : decode cX1_dartFrom 0 = .ok (.aload_n 0, 1) := by decide +kernel
theorem dX1_dartFrom_1 : decode cX1_dartFrom 1 = .ok (.iload_n 1, 1) := by decide +kernel
theorem dX1_dartFrom_2 : decode cX1_dartFrom 2 = .ok (.invokevirtual 35, 3) := by decide +kernel
theorem dX1_dartFrom_5 : decode cX1_dartFrom 5 = .ok (.istore_n 2, 1) := by decide +kernel
theorem dX1_dartFrom_6 : decode cX1_dartFrom 6 = .ok (.aload_n 0, 1) := by decide +kernel
theorem dX1_dartFrom_7 : decode cX1_dartFrom 7 = .ok (.iload_n 2, 1) := by decide +kernel
theorem dX1_dartFrom_8 : decode cX1_dartFrom 8 = .ok (.invokevirtual 39, 3) := by decide +kernel
theorem dX1_dartFrom_11 : decode cX1_dartFrom 11 = .ok (.iload_n 1, 1) := by decide +kernel
theorem dX1_dartFrom_12 : decode cX1_dartFrom 12 = .ok (.if_icmp .ne 9, 3) := by decide +kernel
theorem dX1_dartFrom_15 : decode cX1_dartFrom 15 = .ok (.iconst 2, 1) := by decide +kernel
theorem dX1_dartFrom_16 : decode cX1_dartFrom 16 = .ok (.iload_n 2, 1) := by decide +kernel
theorem dX1_dartFrom_17 : decode cX1_dartFrom 17 = .ok (.imul, 1) := by decide +kernel
theorem dX1_dartFrom_18 : decode cX1_dartFrom 18 = .ok (.goto 8, 3) := by decide +kernel
theorem dX1_dartFrom_21 : decode cX1_dartFrom 21 = .ok (.iconst 2, 1) := by decide +kernel
theorem dX1_dartFrom_22 : decode cX1_dartFrom 22 = .ok (.iload_n 2, 1) := by decide +kernel
theorem dX1_dartFrom_23 : decode cX1_dartFrom 23 = .ok (.imul, 1) := by decide +kernel
theorem dX1_dartFrom_24 : decode cX1_dartFrom 24 = .ok (.iconst 1, 1) := by decide +kernel
theorem dX1_dartFrom_25 : decode cX1_dartFrom 25 = .ok (.iadd, 1) := by decide +kernel
theorem dX1_dartFrom_26 : decode cX1_dartFrom 26 = .ok (.ireturn, 1) := by decide +kernel
set_option maxRecDepth 20000 in
theorem ggX1_gatherLabels_X4_spots : GoodIn wsX1_gatherLabels wsX4_spots := goodIn_r _ [8, 9, 35, 36, 37] (by decide +kernel) (by decide +kernel)
set_option maxRecDepth 20000 in
theorem gX1_gatherLabels_X4_spots : GoodIn wsX1_gatherLabels (wsV RX1 41 RX4 yX4_spots wsX4_spots) := goodIn_app (goodIn_of _ (by decide +kernel)) ggX1_gatherLabels_X4_spots
set_option maxRecDepth 20000 in
theorem ggX1_gatherLabels_X4_label : GoodIn wsX1_gatherLabels wsX4_label := goodIn_r _ [13, 14, 15, 5, 6, 7, 8, 9, 35, 36, 37] (by decide +kernel) (by decide +kernel)
set_option maxRecDepth 20000 in
theorem gX1_gatherLabels_X4_label : GoodIn wsX1_gatherLabels (wsV RX1 47 RX4 yX4_label wsX4_label) := goodIn_app (goodIn_of _ (by decide +kernel)) ggX1_gatherLabels_X4_label
set_option maxRecDepth 20000 in
theorem ggX1_gatherLabels_X1_countLabel : GoodIn wsX1_gatherLabels wsX1_countLabel := goodIn_r _ [20, 3, 2, 1, 21, 22, 23, 19, 24, 25, 26, 27, 28, 29, 30, 31, 32, 33, 34] (by decide +kernel) (by decide +kernel)
set_option maxRecDepth 20000 in
theorem gX1_gatherLabels_X1_countLabel : GoodIn wsX1_gatherLabels (wsV RX1 50 RX1 yX1_countLabel wsX1_countLabel) := goodIn_app (goodIn_of _ (by decide +kernel)) ggX1_gatherLabels_X1_countLabel
theorem dX1_gatherLabels_0 : decode cX1_gatherLabels 0 = .ok (.aload_n 0, 1) := by decide +kernel
theorem dX1_gatherLabels_1 : decode cX1_gatherLabels 1 = .ok (.iconst 0, 1) := by decide +kernel
theorem dX1_gatherLabels_2 : decode cX1_gatherLabels 2 = .ok (.putfield 27, 3) := by decide +kernel
theorem dX1_gatherLabels_5 : decode cX1_gatherLabels 5 = .ok (.iconst 0, 1) := by decide +kernel
theorem dX1_gatherLabels_6 : decode cX1_gatherLabels 6 = .ok (.istore_n 2, 1) := by decide +kernel
theorem dX1_gatherLabels_7 : decode cX1_gatherLabels 7 = .ok (.iload_n 2, 1) := by decide +kernel
theorem dX1_gatherLabels_8 : decode cX1_gatherLabels 8 = .ok (.aload_n 1, 1) := by decide +kernel
theorem dX1_gatherLabels_9 : decode cX1_gatherLabels 9 = .ok (.invokevirtual 41, 3) := by decide +kernel
theorem dX1_gatherLabels_12 : decode cX1_gatherLabels 12 = .ok (.if_icmp .ge 18, 3) := by decide +kernel
theorem dX1_gatherLabels_15 : decode cX1_gatherLabels 15 = .ok (.aload_n 0, 1) := by decide +kernel
theorem dX1_gatherLabels_16 : decode cX1_gatherLabels 16 = .ok (.aload_n 1, 1) := by decide +kernel
theorem dX1_gatherLabels_17 : decode cX1_gatherLabels 17 = .ok (.iload_n 2, 1) := by decide +kernel
theorem dX1_gatherLabels_18 : decode cX1_gatherLabels 18 = .ok (.invokevirtual 47, 3) := by decide +kernel
theorem dX1_gatherLabels_21 : decode cX1_gatherLabels 21 = .ok (.invokevirtual 50, 3) := by decide +kernel
theorem dX1_gatherLabels_24 : decode cX1_gatherLabels 24 = .ok (.iinc 2 1, 3) := by decide +kernel
theorem dX1_gatherLabels_27 : decode cX1_gatherLabels 27 = .ok (.goto (-20), 3) := by decide +kernel
theorem dX1_gatherLabels_30 : decode cX1_gatherLabels 30 = .ok (.iconst 0, 1) := by decide +kernel
theorem dX1_gatherLabels_31 : decode cX1_gatherLabels 31 = .ok (.istore_n 2, 1) := by decide +kernel
theorem dX1_gatherLabels_32 : decode cX1_gatherLabels 32 = .ok (.iload_n 2, 1) := by decide +kernel
theorem dX1_gatherLabels_33 : decode cX1_gatherLabels 33 = .ok (.aload_n 0, 1) := by decide +kernel
theorem dX1_gatherLabels_34 : decode cX1_gatherLabels 34 = .ok (.getfield 27, 3) := by decide +kernel
theorem dX1_gatherLabels_37 : decode cX1_gatherLabels 37 = .ok (.if_icmp .ge 26, 3) := by decide +kernel
theorem dX1_gatherLabels_40 : decode cX1_gatherLabels 40 = .ok (.aload_n 0, 1) := by decide +kernel
theorem dX1_gatherLabels_41 : decode cX1_gatherLabels 41 = .ok (.getfield 15, 3) := by decide +kernel
theorem dX1_gatherLabels_44 : decode cX1_gatherLabels 44 = .ok (.iload_n 2, 1) := by decide +kernel
theorem dX1_gatherLabels_45 : decode cX1_gatherLabels 45 = .ok (.iaload, 1) := by decide +kernel
theorem dX1_gatherLabels_46 : decode cX1_gatherLabels 46 = .ok (.iconst 2, 1) := by decide +kernel
theorem dX1_gatherLabels_47 : decode cX1_gatherLabels 47 = .ok (.if_icmp .eq 10, 3) := by decide +kernel
theorem dX1_gatherLabels_50 : decode cX1_gatherLabels 50 = .ok (.aload_n 0, 1) := by decide +kernel
theorem dX1_gatherLabels_51 : decode cX1_gatherLabels 51 = .ok (.getfield 9, 3) := by decide +kernel
theorem dX1_gatherLabels_54 : decode cX1_gatherLabels 54 = .ok (.iload_n 2, 1) := by decide +kernel
theorem dX1_gatherLabels_55 : decode cX1_gatherLabels 55 = .ok (.iaload, 1) := by decide +kernel
theorem dX1_gatherLabels_56 : decode cX1_gatherLabels 56 = .ok (.ireturn, 1) := by decide +kernel
theorem dX1_gatherLabels_57 : decode cX1_gatherLabels 57 = .ok (.iinc 2 1, 3) := by decide +kernel
theorem dX1_gatherLabels_60 : decode cX1_gatherLabels 60 = .ok (.goto (-28), 3) := by decide +kernel
theorem dX1_gatherLabels_63 : decode cX1_gatherLabels 63 = .ok (.iconst (-1), 1) := by decide +kernel
theorem dX1_gatherLabels_64 : decode cX1_gatherLabels 64 = .ok (.ireturn, 1) := by decide +kernel
set_option maxRecDepth 20000 in
theorem ggX1_countLabel_X1_countLess : GoodIn wsX1_countLabel wsX1_countLess := goodIn_r _ [8, 3, 1, 13, 14, 15, 16, 17, 18] (by decide +kernel) (by decide +kernel)
set_option maxRecDepth 20000 in
theorem gX1_countLabel_X1_countLess : GoodIn wsX1_countLabel (wsV RX1 54 RX1 yX1_countLess wsX1_countLess) := goodIn_app (goodIn_of _ (by decide +kernel)) ggX1_countLabel_X1_countLess
set_option maxRecDepth 20000 in
theorem ggX1_countLabel_X1_has : GoodIn wsX1_countLabel wsX1_has := goodIn_r _ [12, 3, 13, 14, 15, 16, 17, 18] (by decide +kernel) (by decide +kernel)
set_option maxRecDepth 20000 in
theorem gX1_countLabel_X1_has : GoodIn wsX1_countLabel (wsV RX1 31 RX1 yX1_has wsX1_has) := goodIn_app (goodIn_of _ (by decide +kernel)) ggX1_countLabel_X1_has
theorem dX1_countLabel_0 : decode cX1_countLabel 0 = .ok (.aload_n 0, 1) := by decide +kernel
theorem dX1_countLabel_1 : decode cX1_countLabel 1 = .ok (.iload_n 1, 1) := by decide +kernel
theorem dX1_countLabel_2 : decode cX1_countLabel 2 = .ok (.invokevirtual 54, 3) := by decide +kernel
theorem dX1_countLabel_5 : decode cX1_countLabel 5 = .ok (.istore_n 2, 1) := by decide +kernel
theorem dX1_countLabel_6 : decode cX1_countLabel 6 = .ok (.aload_n 0, 1) := by decide +kernel
theorem dX1_countLabel_7 : decode cX1_countLabel 7 = .ok (.iload_n 2, 1) := by decide +kernel
theorem dX1_countLabel_8 : decode cX1_countLabel 8 = .ok (.invokevirtual 31, 3) := by decide +kernel
theorem dX1_countLabel_11 : decode cX1_countLabel 11 = .ok (.ifCond .eq 24, 3) := by decide +kernel
theorem dX1_countLabel_14 : decode cX1_countLabel 14 = .ok (.aload_n 0, 1) := by decide +kernel
theorem dX1_countLabel_15 : decode cX1_countLabel 15 = .ok (.getfield 9, 3) := by decide +kernel
theorem dX1_countLabel_18 : decode cX1_countLabel 18 = .ok (.iload_n 2, 1) := by decide +kernel
theorem dX1_countLabel_19 : decode cX1_countLabel 19 = .ok (.iaload, 1) := by decide +kernel
theorem dX1_countLabel_20 : decode cX1_countLabel 20 = .ok (.iload_n 1, 1) := by decide +kernel
theorem dX1_countLabel_21 : decode cX1_countLabel 21 = .ok (.if_icmp .ne 14, 3) := by decide +kernel
theorem dX1_countLabel_24 : decode cX1_countLabel 24 = .ok (.aload_n 0, 1) := by decide +kernel
theorem dX1_countLabel_25 : decode cX1_countLabel 25 = .ok (.getfield 15, 3) := by decide +kernel
theorem dX1_countLabel_28 : decode cX1_countLabel 28 = .ok (.iload_n 2, 1) := by decide +kernel
theorem dX1_countLabel_29 : decode cX1_countLabel 29 = .ok (.dup2, 1) := by decide +kernel
theorem dX1_countLabel_30 : decode cX1_countLabel 30 = .ok (.iaload, 1) := by decide +kernel
theorem dX1_countLabel_31 : decode cX1_countLabel 31 = .ok (.iconst 1, 1) := by decide +kernel
theorem dX1_countLabel_32 : decode cX1_countLabel 32 = .ok (.iadd, 1) := by decide +kernel
theorem dX1_countLabel_33 : decode cX1_countLabel 33 = .ok (.iastore, 1) := by decide +kernel
theorem dX1_countLabel_34 : decode cX1_countLabel 34 = .ok (.return_, 1) := by decide +kernel
theorem dX1_countLabel_35 : decode cX1_countLabel 35 = .ok (.aload_n 0, 1) := by decide +kernel
theorem dX1_countLabel_36 : decode cX1_countLabel 36 = .ok (.getfield 27, 3) := by decide +kernel
theorem dX1_countLabel_39 : decode cX1_countLabel 39 = .ok (.bipush 80, 2) := by decide +kernel
theorem dX1_countLabel_41 : decode cX1_countLabel 41 = .ok (.if_icmp .lt 4, 3) := by decide +kernel
theorem dX1_countLabel_44 : decode cX1_countLabel 44 = .ok (.return_, 1) := by decide +kernel
theorem dX1_countLabel_45 : decode cX1_countLabel 45 = .ok (.aload_n 0, 1) := by decide +kernel
theorem dX1_countLabel_46 : decode cX1_countLabel 46 = .ok (.getfield 27, 3) := by decide +kernel
theorem dX1_countLabel_49 : decode cX1_countLabel 49 = .ok (.istore_n 3, 1) := by decide +kernel
theorem dX1_countLabel_50 : decode cX1_countLabel 50 = .ok (.iload_n 3, 1) := by decide +kernel
theorem dX1_countLabel_51 : decode cX1_countLabel 51 = .ok (.iload_n 2, 1) := by decide +kernel
theorem dX1_countLabel_52 : decode cX1_countLabel 52 = .ok (.if_icmp .le 37, 3) := by decide +kernel
theorem dX1_countLabel_55 : decode cX1_countLabel 55 = .ok (.aload_n 0, 1) := by decide +kernel
theorem dX1_countLabel_56 : decode cX1_countLabel 56 = .ok (.getfield 9, 3) := by decide +kernel
theorem dX1_countLabel_59 : decode cX1_countLabel 59 = .ok (.iload_n 3, 1) := by decide +kernel
theorem dX1_countLabel_60 : decode cX1_countLabel 60 = .ok (.aload_n 0, 1) := by decide +kernel
theorem dX1_countLabel_61 : decode cX1_countLabel 61 = .ok (.getfield 9, 3) := by decide +kernel
theorem dX1_countLabel_64 : decode cX1_countLabel 64 = .ok (.iload_n 3, 1) := by decide +kernel
theorem dX1_countLabel_65 : decode cX1_countLabel 65 = .ok (.iconst 1, 1) := by decide +kernel
theorem dX1_countLabel_66 : decode cX1_countLabel 66 = .ok (.isub, 1) := by decide +kernel
theorem dX1_countLabel_67 : decode cX1_countLabel 67 = .ok (.iaload, 1) := by decide +kernel
theorem dX1_countLabel_68 : decode cX1_countLabel 68 = .ok (.iastore, 1) := by decide +kernel
theorem dX1_countLabel_69 : decode cX1_countLabel 69 = .ok (.aload_n 0, 1) := by decide +kernel
theorem dX1_countLabel_70 : decode cX1_countLabel 70 = .ok (.getfield 15, 3) := by decide +kernel
theorem dX1_countLabel_73 : decode cX1_countLabel 73 = .ok (.iload_n 3, 1) := by decide +kernel
theorem dX1_countLabel_74 : decode cX1_countLabel 74 = .ok (.aload_n 0, 1) := by decide +kernel
theorem dX1_countLabel_75 : decode cX1_countLabel 75 = .ok (.getfield 15, 3) := by decide +kernel
theorem dX1_countLabel_78 : decode cX1_countLabel 78 = .ok (.iload_n 3, 1) := by decide +kernel
theorem dX1_countLabel_79 : decode cX1_countLabel 79 = .ok (.iconst 1, 1) := by decide +kernel
theorem dX1_countLabel_80 : decode cX1_countLabel 80 = .ok (.isub, 1) := by decide +kernel
theorem dX1_countLabel_81 : decode cX1_countLabel 81 = .ok (.iaload, 1) := by decide +kernel
theorem dX1_countLabel_82 : decode cX1_countLabel 82 = .ok (.iastore, 1) := by decide +kernel
theorem dX1_countLabel_83 : decode cX1_countLabel 83 = .ok (.iinc 3 (-1), 3) := by decide +kernel
theorem dX1_countLabel_86 : decode cX1_countLabel 86 = .ok (.goto (-36), 3) := by decide +kernel
theorem dX1_countLabel_89 : decode cX1_countLabel 89 = .ok (.aload_n 0, 1) := by decide +kernel
theorem dX1_countLabel_90 : decode cX1_countLabel 90 = .ok (.getfield 9, 3) := by decide +kernel
theorem dX1_countLabel_93 : decode cX1_countLabel 93 = .ok (.iload_n 2, 1) := by decide +kernel
theorem dX1_countLabel_94 : decode cX1_countLabel 94 = .ok (.iload_n 1, 1) := by decide +kernel
theorem dX1_countLabel_95 : decode cX1_countLabel 95 = .ok (.iastore, 1) := by decide +kernel
theorem dX1_countLabel_96 : decode cX1_countLabel 96 = .ok (.aload_n 0, 1) := by decide +kernel
theorem dX1_countLabel_97 : decode cX1_countLabel 97 = .ok (.getfield 15, 3) := by decide +kernel
theorem dX1_countLabel_100 : decode cX1_countLabel 100 = .ok (.iload_n 2, 1) := by decide +kernel
theorem dX1_countLabel_101 : decode cX1_countLabel 101 = .ok (.iconst 1, 1) := by decide +kernel
theorem dX1_countLabel_102 : decode cX1_countLabel 102 = .ok (.iastore, 1) := by decide +kernel
theorem dX1_countLabel_103 : decode cX1_countLabel 103 = .ok (.aload_n 0, 1) := by decide +kernel
theorem dX1_countLabel_104 : decode cX1_countLabel 104 = .ok (.dup, 1) := by decide +kernel
theorem dX1_countLabel_105 : decode cX1_countLabel 105 = .ok (.getfield 27, 3) := by decide +kernel
theorem dX1_countLabel_108 : decode cX1_countLabel 108 = .ok (.iconst 1, 1) := by decide +kernel
theorem dX1_countLabel_109 : decode cX1_countLabel 109 = .ok (.iadd, 1) := by decide +kernel
theorem dX1_countLabel_110 : decode cX1_countLabel 110 = .ok (.putfield 27, 3) := by decide +kernel
theorem dX1_countLabel_113 : decode cX1_countLabel 113 = .ok (.return_, 1) := by decide +kernel
set_option maxRecDepth 20000 in
theorem ggX1_findEnds_J7_fill_53178 : GoodIn wsX1_findEnds wsJ7_fill_53178 := goodIn_r _ [8] (by decide +kernel) (by decide +kernel)
set_option maxRecDepth 20000 in
theorem gX1_findEnds_J7_fill_53178 : GoodIn wsX1_findEnds (va_wsS RX1 57 yJ7_fill_53178 wsJ7_fill_53178) := goodIn_app (goodIn_of _ (by decide +kernel)) ggX1_findEnds_J7_fill_53178
set_option maxRecDepth 20000 in
theorem ggX1_findEnds_X4_spots : GoodIn wsX1_findEnds wsX4_spots := goodIn_r _ [13, 14, 65, 66, 67] (by decide +kernel) (by decide +kernel)
set_option maxRecDepth 20000 in
theorem gX1_findEnds_X4_spots : GoodIn wsX1_findEnds (wsV RX1 41 RX4 yX4_spots wsX4_spots) := goodIn_app (goodIn_of _ (by decide +kernel)) ggX1_findEnds_X4_spots
set_option maxRecDepth 20000 in
theorem ggX1_findEnds_X4_label : GoodIn wsX1_findEnds wsX4_label := goodIn_r _ [18, 19, 20, 10, 11, 12, 13, 14, 65, 66, 67] (by decide +kernel) (by decide +kernel)
set_option maxRecDepth 20000 in
theorem gX1_findEnds_X4_label : GoodIn wsX1_findEnds (wsV RX1 47 RX4 yX4_label wsX4_label) := goodIn_app (goodIn_of _ (by decide +kernel)) ggX1_findEnds_X4_label
set_option maxRecDepth 20000 in
theorem ggX1_findEnds_X1_rank : GoodIn wsX1_findEnds wsX1_rank := goodIn_r _ [25, 4, 26, 27, 28, 24, 29, 3, 30, 31, 32, 33, 59, 60, 61, 62, 63, 64] (by decide +kernel) (by decide +kernel)
set_option maxRecDepth 20000 in
theorem gX1_findEnds_X1_rank : GoodIn wsX1_findEnds (wsV RX1 63 RX1 yX1_rank wsX1_rank) := goodIn_app (goodIn_of _ (by decide +kernel)) ggX1_findEnds_X1_rank
set_option maxRecDepth 20000 in
theorem ggX1_findEnds_X4_goesOut : GoodIn wsX1_findEnds wsX4_goesOut := goodIn_r _ [37, 38, 39, 12, 40, 41, 42, 43, 44, 45, 46, 47, 48, 49, 50, 51, 52, 53, 14, 65, 66, 67] (by decide +kernel) (by decide +kernel)
set_option maxRecDepth 20000 in
theorem gX1_findEnds_X4_goesOut : GoodIn wsX1_findEnds (wsV RX1 66 RX4 yX4_goesOut wsX4_goesOut) := goodIn_app (goodIn_of _ (by decide +kernel)) ggX1_findEnds_X4_goesOut
set_option maxRecDepth 20000 in
theorem ggX1_findEnds_X1_noteEnd : GoodIn wsX1_findEnds wsX1_noteEnd := goodIn_r _ [57, 58, 1, 2, 30, 31, 32, 24, 33, 3, 59, 60, 61, 62, 63, 64] (by decide +kernel) (by decide +kernel)
set_option maxRecDepth 20000 in
theorem gX1_findEnds_X1_noteEnd : GoodIn wsX1_findEnds (wsV RX1 69 RX1 yX1_noteEnd wsX1_noteEnd) := goodIn_app (goodIn_of _ (by decide +kernel)) ggX1_findEnds_X1_noteEnd
theorem dX1_findEnds_0 : decode cX1_findEnds 0 = .ok (.aload_n 0, 1) := by decide +kernel
theorem dX1_findEnds_1 : decode cX1_findEnds 1 = .ok (.getfield 18, 3) := by decide +kernel
theorem dX1_findEnds_4 : decode cX1_findEnds 4 = .ok (.iconst (-1), 1) := by decide +kernel
theorem dX1_findEnds_5 : decode cX1_findEnds 5 = .ok (.invokestatic 57, 3) := by decide +kernel
theorem dX1_findEnds_8 : decode cX1_findEnds 8 = .ok (.aload_n 0, 1) := by decide +kernel
theorem dX1_findEnds_9 : decode cX1_findEnds 9 = .ok (.getfield 21, 3) := by decide +kernel
theorem dX1_findEnds_12 : decode cX1_findEnds 12 = .ok (.iconst (-1), 1) := by decide +kernel
theorem dX1_findEnds_13 : decode cX1_findEnds 13 = .ok (.invokestatic 57, 3) := by decide +kernel
theorem dX1_findEnds_16 : decode cX1_findEnds 16 = .ok (.iconst 0, 1) := by decide +kernel
theorem dX1_findEnds_17 : decode cX1_findEnds 17 = .ok (.istore_n 2, 1) := by decide +kernel
theorem dX1_findEnds_18 : decode cX1_findEnds 18 = .ok (.iload_n 2, 1) := by decide +kernel
theorem dX1_findEnds_19 : decode cX1_findEnds 19 = .ok (.aload_n 1, 1) := by decide +kernel
theorem dX1_findEnds_20 : decode cX1_findEnds 20 = .ok (.invokevirtual 41, 3) := by decide +kernel
theorem dX1_findEnds_23 : decode cX1_findEnds 23 = .ok (.if_icmp .ge 28, 3) := by decide +kernel
theorem dX1_findEnds_26 : decode cX1_findEnds 26 = .ok (.aload_n 0, 1) := by decide +kernel
theorem dX1_findEnds_27 : decode cX1_findEnds 27 = .ok (.iload_n 2, 1) := by decide +kernel
theorem dX1_findEnds_28 : decode cX1_findEnds 28 = .ok (.aload_n 0, 1) := by decide +kernel
theorem dX1_findEnds_29 : decode cX1_findEnds 29 = .ok (.aload_n 1, 1) := by decide +kernel
theorem dX1_findEnds_30 : decode cX1_findEnds 30 = .ok (.iload_n 2, 1) := by decide +kernel
theorem dX1_findEnds_31 : decode cX1_findEnds 31 = .ok (.invokevirtual 47, 3) := by decide +kernel
theorem dX1_findEnds_34 : decode cX1_findEnds 34 = .ok (.invokevirtual 63, 3) := by decide +kernel
theorem dX1_findEnds_37 : decode cX1_findEnds 37 = .ok (.aload_n 1, 1) := by decide +kernel
theorem dX1_findEnds_38 : decode cX1_findEnds 38 = .ok (.iload_n 2, 1) := by decide +kernel
theorem dX1_findEnds_39 : decode cX1_findEnds 39 = .ok (.invokevirtual 66, 3) := by decide +kernel
theorem dX1_findEnds_42 : decode cX1_findEnds 42 = .ok (.invokevirtual 69, 3) := by decide +kernel
theorem dX1_findEnds_45 : decode cX1_findEnds 45 = .ok (.iinc 2 1, 3) := by decide +kernel
theorem dX1_findEnds_48 : decode cX1_findEnds 48 = .ok (.goto (-30), 3) := by decide +kernel
theorem dX1_findEnds_51 : decode cX1_findEnds 51 = .ok (.iconst 0, 1) := by decide +kernel
theorem dX1_findEnds_52 : decode cX1_findEnds 52 = .ok (.istore_n 2, 1) := by decide +kernel
theorem dX1_findEnds_53 : decode cX1_findEnds 53 = .ok (.iload_n 2, 1) := by decide +kernel
theorem dX1_findEnds_54 : decode cX1_findEnds 54 = .ok (.aload_n 0, 1) := by decide +kernel
theorem dX1_findEnds_55 : decode cX1_findEnds 55 = .ok (.getfield 27, 3) := by decide +kernel
theorem dX1_findEnds_58 : decode cX1_findEnds 58 = .ok (.if_icmp .ge 36, 3) := by decide +kernel
theorem dX1_findEnds_61 : decode cX1_findEnds 61 = .ok (.aload_n 0, 1) := by decide +kernel
theorem dX1_findEnds_62 : decode cX1_findEnds 62 = .ok (.getfield 18, 3) := by decide +kernel
theorem dX1_findEnds_65 : decode cX1_findEnds 65 = .ok (.iload_n 2, 1) := by decide +kernel
theorem dX1_findEnds_66 : decode cX1_findEnds 66 = .ok (.iaload, 1) := by decide +kernel
theorem dX1_findEnds_67 : decode cX1_findEnds 67 = .ok (.iconst (-1), 1) := by decide +kernel
theorem dX1_findEnds_68 : decode cX1_findEnds 68 = .ok (.if_icmp .eq 13, 3) := by decide +kernel
theorem dX1_findEnds_71 : decode cX1_findEnds 71 = .ok (.aload_n 0, 1) := by decide +kernel
theorem dX1_findEnds_72 : decode cX1_findEnds 72 = .ok (.getfield 21, 3) := by decide +kernel
theorem dX1_findEnds_75 : decode cX1_findEnds 75 = .ok (.iload_n 2, 1) := by decide +kernel
theorem dX1_findEnds_76 : decode cX1_findEnds 76 = .ok (.iaload, 1) := by decide +kernel
theorem dX1_findEnds_77 : decode cX1_findEnds 77 = .ok (.iconst (-1), 1) := by decide +kernel
theorem dX1_findEnds_78 : decode cX1_findEnds 78 = .ok (.if_icmp .ne 10, 3) := by decide +kernel
theorem dX1_findEnds_81 : decode cX1_findEnds 81 = .ok (.aload_n 0, 1) := by decide +kernel
theorem dX1_findEnds_82 : decode cX1_findEnds 82 = .ok (.getfield 9, 3) := by decide +kernel
theorem dX1_findEnds_85 : decode cX1_findEnds 85 = .ok (.iload_n 2, 1) := by decide +kernel
theorem dX1_findEnds_86 : decode cX1_findEnds 86 = .ok (.iaload, 1) := by decide +kernel
theorem dX1_findEnds_87 : decode cX1_findEnds 87 = .ok (.ireturn, 1) := by decide +kernel
theorem dX1_findEnds_88 : decode cX1_findEnds 88 = .ok (.iinc 2 1, 3) := by decide +kernel
theorem dX1_findEnds_91 : decode cX1_findEnds 91 = .ok (.goto (-38), 3) := by decide +kernel
theorem dX1_findEnds_94 : decode cX1_findEnds 94 = .ok (.iconst (-1), 1) := by decide +kernel
theorem dX1_findEnds_95 : decode cX1_findEnds 95 = .ok (.ireturn, 1) := by decide +kernel
set_option maxRecDepth 20000 in
theorem ggX1_noteEnd_X1_has : GoodIn wsX1_noteEnd wsX1_has := goodIn_r _ [8, 9, 10, 11, 12, 13, 14, 15] (by decide +kernel) (by decide +kernel)
set_option maxRecDepth 20000 in
theorem gX1_noteEnd_X1_has : GoodIn wsX1_noteEnd (wsV RX1 31 RX1 yX1_has wsX1_has) := goodIn_app (goodIn_of _ (by decide +kernel)) ggX1_noteEnd_X1_has
theorem dX1_noteEnd_0 : decode cX1_noteEnd 0 = .ok (.iload_n 1, 1) := by decide +kernel
theorem dX1_noteEnd_1 : decode cX1_noteEnd 1 = .ok (.ifCond .lt 17, 3) := by decide +kernel
theorem dX1_noteEnd_4 : decode cX1_noteEnd 4 = .ok (.iload_n 1, 1) := by decide +kernel
theorem dX1_noteEnd_5 : decode cX1_noteEnd 5 = .ok (.bipush 80, 2) := by decide +kernel
theorem dX1_noteEnd_7 : decode cX1_noteEnd 7 = .ok (.if_icmp .ge 11, 3) := by decide +kernel
theorem dX1_noteEnd_10 : decode cX1_noteEnd 10 = .ok (.aload_n 0, 1) := by decide +kernel
theorem dX1_noteEnd_11 : decode cX1_noteEnd 11 = .ok (.iload_n 2, 1) := by decide +kernel
theorem dX1_noteEnd_12 : decode cX1_noteEnd 12 = .ok (.invokevirtual 31, 3) := by decide +kernel
theorem dX1_noteEnd_15 : decode cX1_noteEnd 15 = .ok (.ifCond .ne 4, 3) := by decide +kernel
theorem dX1_noteEnd_18 : decode cX1_noteEnd 18 = .ok (.return_, 1) := by decide +kernel
theorem dX1_noteEnd_19 : decode cX1_noteEnd 19 = .ok (.aload_n 0, 1) := by decide +kernel
theorem dX1_noteEnd_20 : decode cX1_noteEnd 20 = .ok (.getfield 24, 3) := by decide +kernel
theorem dX1_noteEnd_23 : decode cX1_noteEnd 23 = .ok (.iload_n 1, 1) := by decide +kernel
theorem dX1_noteEnd_24 : decode cX1_noteEnd 24 = .ok (.iload_n 2, 1) := by decide +kernel
theorem dX1_noteEnd_25 : decode cX1_noteEnd 25 = .ok (.iastore, 1) := by decide +kernel
theorem dX1_noteEnd_26 : decode cX1_noteEnd 26 = .ok (.iload_n 3, 1) := by decide +kernel
theorem dX1_noteEnd_27 : decode cX1_noteEnd 27 = .ok (.ifCond .eq 13, 3) := by decide +kernel
theorem dX1_noteEnd_30 : decode cX1_noteEnd 30 = .ok (.aload_n 0, 1) := by decide +kernel
theorem dX1_noteEnd_31 : decode cX1_noteEnd 31 = .ok (.getfield 18, 3) := by decide +kernel
theorem dX1_noteEnd_34 : decode cX1_noteEnd 34 = .ok (.iload_n 2, 1) := by decide +kernel
theorem dX1_noteEnd_35 : decode cX1_noteEnd 35 = .ok (.iload_n 1, 1) := by decide +kernel
theorem dX1_noteEnd_36 : decode cX1_noteEnd 36 = .ok (.iastore, 1) := by decide +kernel
theorem dX1_noteEnd_37 : decode cX1_noteEnd 37 = .ok (.goto 10, 3) := by decide +kernel
theorem dX1_noteEnd_40 : decode cX1_noteEnd 40 = .ok (.aload_n 0, 1) := by decide +kernel
theorem dX1_noteEnd_41 : decode cX1_noteEnd 41 = .ok (.getfield 21, 3) := by decide +kernel
theorem dX1_noteEnd_44 : decode cX1_noteEnd 44 = .ok (.iload_n 2, 1) := by decide +kernel
theorem dX1_noteEnd_45 : decode cX1_noteEnd 45 = .ok (.iload_n 1, 1) := by decide +kernel
theorem dX1_noteEnd_46 : decode cX1_noteEnd 46 = .ok (.iastore, 1) := by decide +kernel
theorem dX1_noteEnd_47 : decode cX1_noteEnd 47 = .ok (.return_, 1) := by decide +kernel
set_option maxRecDepth 20000 in
theorem ggX1_rank_X1_countLess : GoodIn wsX1_rank wsX1_countLess := goodIn_r _ [6, 7, 1, 12, 13, 14, 15, 16, 17] (by decide +kernel) (by decide +kernel)
set_option maxRecDepth 20000 in
theorem gX1_rank_X1_countLess : GoodIn wsX1_rank (wsV RX1 54 RX1 yX1_countLess wsX1_countLess) := goodIn_app (goodIn_of _ (by decide +kernel)) ggX1_rank_X1_countLess
set_option maxRecDepth 20000 in
theorem ggX1_rank_X1_has : GoodIn wsX1_rank wsX1_has := goodIn_r _ [11, 7, 12, 13, 14, 15, 16, 17] (by decide +kernel) (by decide +kernel)
set_option maxRecDepth 20000 in
theorem gX1_rank_X1_has : GoodIn wsX1_rank (wsV RX1 31 RX1 yX1_has wsX1_has) := goodIn_app (goodIn_of _ (by decide +kernel)) ggX1_rank_X1_has
theorem dX1_rank_0 : decode cX1_rank 0 = .ok (.aload_n 0, 1) := by decide +kernel
theorem dX1_rank_1 : decode cX1_rank 1 = .ok (.iload_n 1, 1) := by decide +kernel
theorem dX1_rank_2 : decode cX1_rank 2 = .ok (.invokevirtual 54, 3) := by decide +kernel
theorem dX1_rank_5 : decode cX1_rank 5 = .ok (.istore_n 2, 1) := by decide +kernel
theorem dX1_rank_6 : decode cX1_rank 6 = .ok (.aload_n 0, 1) := by decide +kernel
theorem dX1_rank_7 : decode cX1_rank 7 = .ok (.iload_n 2, 1) := by decide +kernel
theorem dX1_rank_8 : decode cX1_rank 8 = .ok (.invokevirtual 31, 3) := by decide +kernel
theorem dX1_rank_11 : decode cX1_rank 11 = .ok (.ifCond .eq 17, 3) := by decide +kernel
theorem dX1_rank_14 : decode cX1_rank 14 = .ok (.aload_n 0, 1) := by decide +kernel
theorem dX1_rank_15 : decode cX1_rank 15 = .ok (.getfield 9, 3) := by decide +kernel
theorem dX1_rank_18 : decode cX1_rank 18 = .ok (.iload_n 2, 1) := by decide +kernel
theorem dX1_rank_19 : decode cX1_rank 19 = .ok (.iaload, 1) := by decide +kernel
theorem dX1_rank_20 : decode cX1_rank 20 = .ok (.iload_n 1, 1) := by decide +kernel
theorem dX1_rank_21 : decode cX1_rank 21 = .ok (.if_icmp .ne 7, 3) := by decide +kernel
theorem dX1_rank_24 : decode cX1_rank 24 = .ok (.iload_n 2, 1) := by decide +kernel
theorem dX1_rank_25 : decode cX1_rank 25 = .ok (.goto 4, 3) := by decide +kernel
theorem dX1_rank_28 : decode cX1_rank 28 = .ok (.iconst (-1), 1) := by decide +kernel
theorem dX1_rank_29 : decode cX1_rank 29 = .ok (.ireturn, 1) := by decide +kernel
theorem dX1_countLess_0 : decode cX1_countLess 0 = .ok (.iconst 0, 1) := by decide +kernel
theorem dX1_countLess_1 : decode cX1_countLess 1 = .ok (.istore_n 2, 1) := by decide +kernel
theorem dX1_countLess_2 : decode cX1_countLess 2 = .ok (.iload_n 2, 1) := by decide +kernel
theorem dX1_countLess_3 : decode cX1_countLess 3 = .ok (.aload_n 0, 1) := by decide +kernel
theorem dX1_countLess_4 : decode cX1_countLess 4 = .ok (.getfield 27, 3) := by decide +kernel
theorem dX1_countLess_7 : decode cX1_countLess 7 = .ok (.if_icmp .ge 19, 3) := by decide +kernel
theorem dX1_countLess_10 : decode cX1_countLess 10 = .ok (.aload_n 0, 1) := by decide +kernel
theorem dX1_countLess_11 : decode cX1_countLess 11 = .ok (.getfield 9, 3) := by decide +kernel
theorem dX1_countLess_14 : decode cX1_countLess 14 = .ok (.iload_n 2, 1) := by decide +kernel
theorem dX1_countLess_15 : decode cX1_countLess 15 = .ok (.iaload, 1) := by decide +kernel
theorem dX1_countLess_16 : decode cX1_countLess 16 = .ok (.iload_n 1, 1) := by decide +kernel
theorem dX1_countLess_17 : decode cX1_countLess 17 = .ok (.if_icmp .ge 9, 3) := by decide +kernel
theorem dX1_countLess_20 : decode cX1_countLess 20 = .ok (.iinc 2 1, 3) := by decide +kernel
theorem dX1_countLess_23 : decode cX1_countLess 23 = .ok (.goto (-21), 3) := by decide +kernel
theorem dX1_countLess_26 : decode cX1_countLess 26 = .ok (.iload_n 2, 1) := by decide +kernel
theorem dX1_countLess_27 : decode cX1_countLess 27 = .ok (.ireturn, 1) := by decide +kernel
set_option maxRecDepth 20000 in
theorem ggX1_alternate_X4_isUpper : GoodIn wsX1_alternate wsX4_isUpper := goodIn_r _ [7] (by decide +kernel) (by decide +kernel)
set_option maxRecDepth 20000 in
theorem gX1_alternate_X4_isUpper : GoodIn wsX1_alternate (va_wsS RX1 73 yX4_isUpper wsX4_isUpper) := goodIn_app (goodIn_of _ (by decide +kernel)) ggX1_alternate_X4_isUpper
theorem dX1_alternate_0 : decode cX1_alternate 0 = .ok (.iconst 0, 1) := by decide +kernel
theorem dX1_alternate_1 : decode cX1_alternate 1 = .ok (.istore_n 1, 1) := by decide +kernel
theorem dX1_alternate_2 : decode cX1_alternate 2 = .ok (.iload_n 1, 1) := by decide +kernel
theorem dX1_alternate_3 : decode cX1_alternate 3 = .ok (.aload_n 0, 1) := by decide +kernel
theorem dX1_alternate_4 : decode cX1_alternate 4 = .ok (.getfield 27, 3) := by decide +kernel
theorem dX1_alternate_7 : decode cX1_alternate 7 = .ok (.if_icmp .ge 32, 3) := by decide +kernel
theorem dX1_alternate_10 : decode cX1_alternate 10 = .ok (.aload_n 0, 1) := by decide +kernel
theorem dX1_alternate_11 : decode cX1_alternate 11 = .ok (.getfield 18, 3) := by decide +kernel
theorem dX1_alternate_14 : decode cX1_alternate 14 = .ok (.iload_n 1, 1) := by decide +kernel
theorem dX1_alternate_15 : decode cX1_alternate 15 = .ok (.iaload, 1) := by decide +kernel
theorem dX1_alternate_16 : decode cX1_alternate 16 = .ok (.invokestatic 73, 3) := by decide +kernel
theorem dX1_alternate_19 : decode cX1_alternate 19 = .ok (.aload_n 0, 1) := by decide +kernel
theorem dX1_alternate_20 : decode cX1_alternate 20 = .ok (.getfield 21, 3) := by decide +kernel
theorem dX1_alternate_23 : decode cX1_alternate 23 = .ok (.iload_n 1, 1) := by decide +kernel
theorem dX1_alternate_24 : decode cX1_alternate 24 = .ok (.iaload, 1) := by decide +kernel
theorem dX1_alternate_25 : decode cX1_alternate 25 = .ok (.invokestatic 73, 3) := by decide +kernel
theorem dX1_alternate_28 : decode cX1_alternate 28 = .ok (.if_icmp .ne 5, 3) := by decide +kernel
theorem dX1_alternate_31 : decode cX1_alternate 31 = .ok (.iconst 0, 1) := by decide +kernel
theorem dX1_alternate_32 : decode cX1_alternate 32 = .ok (.ireturn, 1) := by decide +kernel
theorem dX1_alternate_33 : decode cX1_alternate 33 = .ok (.iinc 1 1, 3) := by decide +kernel
theorem dX1_alternate_36 : decode cX1_alternate 36 = .ok (.goto (-34), 3) := by decide +kernel
theorem dX1_alternate_39 : decode cX1_alternate 39 = .ok (.iconst 1, 1) := by decide +kernel
theorem dX1_alternate_40 : decode cX1_alternate 40 = .ok (.ireturn, 1) := by decide +kernel
theorem dX2_init_0 : decode cX2_init 0 = .ok (.aload_n 0, 1) := by decide +kernel
theorem dX2_init_1 : decode cX2_init 1 = .ok (.invokespecial 3, 3) := by decide +kernel
theorem dX2_init_4 : decode cX2_init 4 = .ok (.aload_n 0, 1) := by decide +kernel
theorem dX2_init_5 : decode cX2_init 5 = .ok (.bipush 40, 2) := by decide +kernel
theorem dX2_init_7 : decode cX2_init 7 = .ok (.newarray .int, 2) := by decide +kernel
theorem dX2_init_9 : decode cX2_init 9 = .ok (.putfield 9, 3) := by decide +kernel
theorem dX2_init_12 : decode cX2_init 12 = .ok (.aload_n 0, 1) := by decide +kernel
theorem dX2_init_13 : decode cX2_init 13 = .ok (.bipush 40, 2) := by decide +kernel
theorem dX2_init_15 : decode cX2_init 15 = .ok (.newarray .int, 2) := by decide +kernel
theorem dX2_init_17 : decode cX2_init 17 = .ok (.putfield 15, 3) := by decide +kernel
theorem dX2_init_20 : decode cX2_init 20 = .ok (.aload_n 0, 1) := by decide +kernel
theorem dX2_init_21 : decode cX2_init 21 = .ok (.iconst 0, 1) := by decide +kernel
theorem dX2_init_22 : decode cX2_init 22 = .ok (.putfield 18, 3) := by decide +kernel
theorem dX2_init_25 : decode cX2_init 25 = .ok (.aload_n 0, 1) := by decide +kernel
theorem dX2_init_26 : decode cX2_init 26 = .ok (.iconst 0, 1) := by decide +kernel
theorem dX2_init_27 : decode cX2_init 27 = .ok (.putfield 22, 3) := by decide +kernel
theorem dX2_init_30 : decode cX2_init 30 = .ok (.return_, 1) := by decide +kernel
theorem dX2_count_0 : decode cX2_count 0 = .ok (.aload_n 0, 1) := by decide +kernel
theorem dX2_count_1 : decode cX2_count 1 = .ok (.getfield 22, 3) := by decide +kernel
theorem dX2_count_4 : decode cX2_count 4 = .ok (.ireturn, 1) := by decide +kernel
theorem dX2_hasMember_0 : decode cX2_hasMember 0 = .ok (.iload_n 1, 1) := by decide +kernel
theorem dX2_hasMember_1 : decode cX2_hasMember 1 = .ok (.ifCond .lt 15, 3) := by decide +kernel
theorem dX2_hasMember_4 : decode cX2_hasMember 4 = .ok (.iload_n 1, 1) := by decide +kernel
theorem dX2_hasMember_5 : decode cX2_hasMember 5 = .ok (.aload_n 0, 1) := by decide +kernel
theorem dX2_hasMember_6 : decode cX2_hasMember 6 = .ok (.getfield 18, 3) := by decide +kernel
theorem dX2_hasMember_9 : decode cX2_hasMember 9 = .ok (.if_icmp .ge 7, 3) := by decide +kernel
theorem dX2_hasMember_12 : decode cX2_hasMember 12 = .ok (.iconst 1, 1) := by decide +kernel
theorem dX2_hasMember_13 : decode cX2_hasMember 13 = .ok (.goto 4, 3) := by decide +kernel
theorem dX2_hasMember_16 : decode cX2_hasMember 16 = .ok (.iconst 0, 1) := by decide +kernel
theorem dX2_hasMember_17 : decode cX2_hasMember 17 = .ok (.ireturn, 1) := by decide +kernel
set_option maxRecDepth 20000 in
theorem ggX2_least_X2_hasMember : GoodIn wsX2_least wsX2_hasMember := goodIn_r _ [6, 7, 8, 9, 10, 11] (by decide +kernel) (by decide +kernel)
set_option maxRecDepth 20000 in
theorem gX2_least_X2_hasMember : GoodIn wsX2_least (wsV RX2 25 RX2 yX2_hasMember wsX2_hasMember) := goodIn_app (goodIn_of _ (by decide +kernel)) ggX2_least_X2_hasMember
theorem dX2_least_0 : decode cX2_least 0 = .ok (.aload_n 0, 1) := by decide +kernel
theorem dX2_least_1 : decode cX2_least 1 = .ok (.iload_n 1, 1) := by decide +kernel
theorem dX2_least_2 : decode cX2_least 2 = .ok (.invokevirtual 25, 3) := by decide +kernel
theorem dX2_least_5 : decode cX2_least 5 = .ok (.ifCond .eq 12, 3) := by decide +kernel
theorem dX2_least_8 : decode cX2_least 8 = .ok (.aload_n 0, 1) := by decide +kernel
theorem dX2_least_9 : decode cX2_least 9 = .ok (.getfield 9, 3) := by decide +kernel
theorem dX2_least_12 : decode cX2_least 12 = .ok (.iload_n 1, 1) := by decide +kernel
theorem dX2_least_13 : decode cX2_least 13 = .ok (.iaload, 1) := by decide +kernel
theorem dX2_least_14 : decode cX2_least 14 = .ok (.goto 4, 3) := by decide +kernel
theorem dX2_least_17 : decode cX2_least 17 = .ok (.iconst (-1), 1) := by decide +kernel
theorem dX2_least_18 : decode cX2_least 18 = .ok (.ireturn, 1) := by decide +kernel
set_option maxRecDepth 20000 in
theorem ggX2_numberOf_X2_hasMember : GoodIn wsX2_numberOf wsX2_hasMember := goodIn_r _ [6, 7, 8, 9, 10, 11] (by decide +kernel) (by decide +kernel)
set_option maxRecDepth 20000 in
theorem gX2_numberOf_X2_hasMember : GoodIn wsX2_numberOf (wsV RX2 25 RX2 yX2_hasMember wsX2_hasMember) := goodIn_app (goodIn_of _ (by decide +kernel)) ggX2_numberOf_X2_hasMember
theorem dX2_numberOf_0 : decode cX2_numberOf 0 = .ok (.aload_n 0, 1) := by decide +kernel
theorem dX2_numberOf_1 : decode cX2_numberOf 1 = .ok (.iload_n 1, 1) := by decide +kernel
theorem dX2_numberOf_2 : decode cX2_numberOf 2 = .ok (.invokevirtual 25, 3) := by decide +kernel
theorem dX2_numberOf_5 : decode cX2_numberOf 5 = .ok (.ifCond .eq 12, 3) := by decide +kernel
theorem dX2_numberOf_8 : decode cX2_numberOf 8 = .ok (.aload_n 0, 1) := by decide +kernel
theorem dX2_numberOf_9 : decode cX2_numberOf 9 = .ok (.getfield 15, 3) := by decide +kernel
theorem dX2_numberOf_12 : decode cX2_numberOf 12 = .ok (.iload_n 1, 1) := by decide +kernel
theorem dX2_numberOf_13 : decode cX2_numberOf 13 = .ok (.iaload, 1) := by decide +kernel
theorem dX2_numberOf_14 : decode cX2_numberOf 14 = .ok (.goto 4, 3) := by decide +kernel
theorem dX2_numberOf_17 : decode cX2_numberOf 17 = .ok (.iconst (-1), 1) := by decide +kernel
theorem dX2_numberOf_18 : decode cX2_numberOf 18 = .ok (.ireturn, 1) := by decide +kernel
theorem dX2_begin_0 : decode cX2_begin 0 = .ok (.aload_n 0, 1) := by decide +kernel
theorem dX2_begin_1 : decode cX2_begin 1 = .ok (.iload_n 1, 1) := by decide +kernel
theorem dX2_begin_2 : decode cX2_begin 2 = .ok (.bipush 40, 2) := by decide +kernel
theorem dX2_begin_4 : decode cX2_begin 4 = .ok (.invokestatic 29, 3) := by decide +kernel
theorem dX2_begin_7 : decode cX2_begin 7 = .ok (.putfield 18, 3) := by decide +kernel
theorem dX2_begin_10 : decode cX2_begin 10 = .ok (.iconst 0, 1) := by decide +kernel
theorem dX2_begin_11 : decode cX2_begin 11 = .ok (.istore_n 2, 1) := by decide +kernel
theorem dX2_begin_12 : decode cX2_begin 12 = .ok (.iload_n 2, 1) := by decide +kernel
theorem dX2_begin_13 : decode cX2_begin 13 = .ok (.aload_n 0, 1) := by decide +kernel
theorem dX2_begin_14 : decode cX2_begin 14 = .ok (.getfield 18, 3) := by decide +kernel
theorem dX2_begin_17 : decode cX2_begin 17 = .ok (.if_icmp .ge 16, 3) := by decide +kernel
theorem dX2_begin_20 : decode cX2_begin 20 = .ok (.aload_n 0, 1) := by decide +kernel
theorem dX2_begin_21 : decode cX2_begin 21 = .ok (.getfield 9, 3) := by decide +kernel
theorem dX2_begin_24 : decode cX2_begin 24 = .ok (.iload_n 2, 1) := by decide +kernel
theorem dX2_begin_25 : decode cX2_begin 25 = .ok (.iload_n 2, 1) := by decide +kernel
theorem dX2_begin_26 : decode cX2_begin 26 = .ok (.iastore, 1) := by decide +kernel
theorem dX2_begin_27 : decode cX2_begin 27 = .ok (.iinc 2 1, 3) := by decide +kernel
theorem dX2_begin_30 : decode cX2_begin 30 = .ok (.goto (-18), 3) := by decide +kernel
theorem dX2_begin_33 : decode cX2_begin 33 = .ok (.return_, 1) := by decide +kernel
set_option maxRecDepth 20000 in
theorem ggX2_join_X2_least : GoodIn wsX2_join wsX2_least := goodIn_r _ [14, 9, 15, 16, 17, 13, 18, 8, 19, 20, 21, 22] (by decide +kernel) (by decide +kernel)
set_option maxRecDepth 20000 in
theorem gX2_join_X2_least : GoodIn wsX2_join (wsV RX2 35 RX2 yX2_least wsX2_least) := goodIn_app (goodIn_of _ (by decide +kernel)) ggX2_join_X2_least
theorem dX2_join_0 : decode cX2_join 0 = .ok (.aload_n 0, 1) := by decide +kernel
theorem dX2_join_1 : decode cX2_join 1 = .ok (.iload_n 1, 1) := by decide +kernel
theorem dX2_join_2 : decode cX2_join 2 = .ok (.invokevirtual 35, 3) := by decide +kernel
theorem dX2_join_5 : decode cX2_join 5 = .ok (.aload_n 0, 1) := by decide +kernel
theorem dX2_join_6 : decode cX2_join 6 = .ok (.iload_n 2, 1) := by decide +kernel
theorem dX2_join_7 : decode cX2_join 7 = .ok (.invokevirtual 35, 3) := by decide +kernel
theorem dX2_join_10 : decode cX2_join 10 = .ok (.invokestatic 29, 3) := by decide +kernel
theorem dX2_join_13 : decode cX2_join 13 = .ok (.istore_n 3, 1) := by decide +kernel
theorem dX2_join_14 : decode cX2_join 14 = .ok (.aload_n 0, 1) := by decide +kernel
theorem dX2_join_15 : decode cX2_join 15 = .ok (.iload_n 1, 1) := by decide +kernel
theorem dX2_join_16 : decode cX2_join 16 = .ok (.invokevirtual 35, 3) := by decide +kernel
theorem dX2_join_19 : decode cX2_join 19 = .ok (.aload_n 0, 1) := by decide +kernel
theorem dX2_join_20 : decode cX2_join 20 = .ok (.iload_n 2, 1) := by decide +kernel
theorem dX2_join_21 : decode cX2_join 21 = .ok (.invokevirtual 35, 3) := by decide +kernel
theorem dX2_join_24 : decode cX2_join 24 = .ok (.invokestatic 38, 3) := by decide +kernel
theorem dX2_join_27 : decode cX2_join 27 = .ok (.istore 4, 2) := by decide +kernel
theorem dX2_join_29 : decode cX2_join 29 = .ok (.iload_n 3, 1) := by decide +kernel
theorem dX2_join_30 : decode cX2_join 30 = .ok (.ifCond .lt 9, 3) := by decide +kernel
theorem dX2_join_33 : decode cX2_join 33 = .ok (.iload_n 3, 1) := by decide +kernel
theorem dX2_join_34 : decode cX2_join 34 = .ok (.iload 4, 2) := by decide +kernel
theorem dX2_join_36 : decode cX2_join 36 = .ok (.if_icmp .ne 4, 3) := by decide +kernel
theorem dX2_join_39 : decode cX2_join 39 = .ok (.return_, 1) := by decide +kernel
theorem dX2_join_40 : decode cX2_join 40 = .ok (.iconst 0, 1) := by decide +kernel
theorem dX2_join_41 : decode cX2_join 41 = .ok (.istore 5, 2) := by decide +kernel
theorem dX2_join_43 : decode cX2_join 43 = .ok (.iload 5, 2) := by decide +kernel
theorem dX2_join_45 : decode cX2_join 45 = .ok (.aload_n 0, 1) := by decide +kernel
theorem dX2_join_46 : decode cX2_join 46 = .ok (.getfield 18, 3) := by decide +kernel
theorem dX2_join_49 : decode cX2_join 49 = .ok (.if_icmp .ge 29, 3) := by decide +kernel
theorem dX2_join_52 : decode cX2_join 52 = .ok (.aload_n 0, 1) := by decide +kernel
theorem dX2_join_53 : decode cX2_join 53 = .ok (.getfield 9, 3) := by decide +kernel
theorem dX2_join_56 : decode cX2_join 56 = .ok (.iload 5, 2) := by decide +kernel
theorem dX2_join_58 : decode cX2_join 58 = .ok (.iaload, 1) := by decide +kernel
theorem dX2_join_59 : decode cX2_join 59 = .ok (.iload 4, 2) := by decide +kernel
theorem dX2_join_61 : decode cX2_join 61 = .ok (.if_icmp .ne 11, 3) := by decide +kernel
theorem dX2_join_64 : decode cX2_join 64 = .ok (.aload_n 0, 1) := by decide +kernel
theorem dX2_join_65 : decode cX2_join 65 = .ok (.getfield 9, 3) := by decide +kernel
theorem dX2_join_68 : decode cX2_join 68 = .ok (.iload 5, 2) := by decide +kernel
theorem dX2_join_70 : decode cX2_join 70 = .ok (.iload_n 3, 1) := by decide +kernel
theorem dX2_join_71 : decode cX2_join 71 = .ok (.iastore, 1) := by decide +kernel
theorem dX2_join_72 : decode cX2_join 72 = .ok (.iinc 5 1, 3) := by decide +kernel
theorem dX2_join_75 : decode cX2_join 75 = .ok (.goto (-32), 3) := by decide +kernel
theorem dX2_join_78 : decode cX2_join 78 = .ok (.return_, 1) := by decide +kernel
set_option maxRecDepth 20000 in
theorem ggX2_numberGroups_X2_numberOf : GoodIn wsX2_numberGroups wsX2_numberOf := goodIn_r _ [9, 4, 10, 11, 12, 8, 13, 2, 14, 15, 16, 17] (by decide +kernel) (by decide +kernel)
set_option maxRecDepth 20000 in
theorem gX2_numberGroups_X2_numberOf : GoodIn wsX2_numberGroups (wsV RX2 41 RX2 yX2_numberOf wsX2_numberOf) := goodIn_app (goodIn_of _ (by decide +kernel)) ggX2_numberGroups_X2_numberOf
theorem dX2_numberGroups_0 : decode cX2_numberGroups 0 = .ok (.aload_n 0, 1) := by decide +kernel
theorem dX2_numberGroups_1 : decode cX2_numberGroups 1 = .ok (.iconst 0, 1) := by decide +kernel
theorem dX2_numberGroups_2 : decode cX2_numberGroups 2 = .ok (.putfield 22, 3) := by decide +kernel
theorem dX2_numberGroups_5 : decode cX2_numberGroups 5 = .ok (.iconst 0, 1) := by decide +kernel
theorem dX2_numberGroups_6 : decode cX2_numberGroups 6 = .ok (.istore_n 1, 1) := by decide +kernel
theorem dX2_numberGroups_7 : decode cX2_numberGroups 7 = .ok (.iload_n 1, 1) := by decide +kernel
theorem dX2_numberGroups_8 : decode cX2_numberGroups 8 = .ok (.aload_n 0, 1) := by decide +kernel
theorem dX2_numberGroups_9 : decode cX2_numberGroups 9 = .ok (.getfield 18, 3) := by decide +kernel
theorem dX2_numberGroups_12 : decode cX2_numberGroups 12 = .ok (.if_icmp .ge 58, 3) := by decide +kernel
theorem dX2_numberGroups_15 : decode cX2_numberGroups 15 = .ok (.aload_n 0, 1) := by decide +kernel
theorem dX2_numberGroups_16 : decode cX2_numberGroups 16 = .ok (.getfield 9, 3) := by decide +kernel
theorem dX2_numberGroups_19 : decode cX2_numberGroups 19 = .ok (.iload_n 1, 1) := by decide +kernel
theorem dX2_numberGroups_20 : decode cX2_numberGroups 20 = .ok (.iaload, 1) := by decide +kernel
theorem dX2_numberGroups_21 : decode cX2_numberGroups 21 = .ok (.iload_n 1, 1) := by decide +kernel
theorem dX2_numberGroups_22 : decode cX2_numberGroups 22 = .ok (.if_icmp .ne 26, 3) := by decide +kernel
theorem dX2_numberGroups_25 : decode cX2_numberGroups 25 = .ok (.aload_n 0, 1) := by decide +kernel
theorem dX2_numberGroups_26 : decode cX2_numberGroups 26 = .ok (.getfield 15, 3) := by decide +kernel
theorem dX2_numberGroups_29 : decode cX2_numberGroups 29 = .ok (.iload_n 1, 1) := by decide +kernel
theorem dX2_numberGroups_30 : decode cX2_numberGroups 30 = .ok (.aload_n 0, 1) := by decide +kernel
theorem dX2_numberGroups_31 : decode cX2_numberGroups 31 = .ok (.getfield 22, 3) := by decide +kernel
theorem dX2_numberGroups_34 : decode cX2_numberGroups 34 = .ok (.iastore, 1) := by decide +kernel
theorem dX2_numberGroups_35 : decode cX2_numberGroups 35 = .ok (.aload_n 0, 1) := by decide +kernel
theorem dX2_numberGroups_36 : decode cX2_numberGroups 36 = .ok (.dup, 1) := by decide +kernel
theorem dX2_numberGroups_37 : decode cX2_numberGroups 37 = .ok (.getfield 22, 3) := by decide +kernel
theorem dX2_numberGroups_40 : decode cX2_numberGroups 40 = .ok (.iconst 1, 1) := by decide +kernel
theorem dX2_numberGroups_41 : decode cX2_numberGroups 41 = .ok (.iadd, 1) := by decide +kernel
theorem dX2_numberGroups_42 : decode cX2_numberGroups 42 = .ok (.putfield 22, 3) := by decide +kernel
theorem dX2_numberGroups_45 : decode cX2_numberGroups 45 = .ok (.goto 19, 3) := by decide +kernel
theorem dX2_numberGroups_48 : decode cX2_numberGroups 48 = .ok (.aload_n 0, 1) := by decide +kernel
theorem dX2_numberGroups_49 : decode cX2_numberGroups 49 = .ok (.getfield 15, 3) := by decide +kernel
theorem dX2_numberGroups_52 : decode cX2_numberGroups 52 = .ok (.iload_n 1, 1) := by decide +kernel
theorem dX2_numberGroups_53 : decode cX2_numberGroups 53 = .ok (.aload_n 0, 1) := by decide +kernel
theorem dX2_numberGroups_54 : decode cX2_numberGroups 54 = .ok (.aload_n 0, 1) := by decide +kernel
theorem dX2_numberGroups_55 : decode cX2_numberGroups 55 = .ok (.getfield 9, 3) := by decide +kernel
theorem dX2_numberGroups_58 : decode cX2_numberGroups 58 = .ok (.iload_n 1, 1) := by decide +kernel
theorem dX2_numberGroups_59 : decode cX2_numberGroups 59 = .ok (.iaload, 1) := by decide +kernel
theorem dX2_numberGroups_60 : decode cX2_numberGroups 60 = .ok (.invokevirtual 41, 3) := by decide +kernel
theorem dX2_numberGroups_63 : decode cX2_numberGroups 63 = .ok (.iastore, 1) := by decide +kernel
theorem dX2_numberGroups_64 : decode cX2_numberGroups 64 = .ok (.iinc 1 1, 3) := by decide +kernel
theorem dX2_numberGroups_67 : decode cX2_numberGroups 67 = .ok (.goto (-60), 3) := by decide +kernel
theorem dX2_numberGroups_70 : decode cX2_numberGroups 70 = .ok (.return_, 1) := by decide +kernel
theorem dX3_init_0 : decode cX3_init 0 = .ok (.aload_n 0, 1) := by decide +kernel
theorem dX3_init_1 : decode cX3_init 1 = .ok (.invokespecial 3, 3) := by decide +kernel
theorem dX3_init_4 : decode cX3_init 4 = .ok (.aload_n 0, 1) := by decide +kernel
theorem dX3_init_5 : decode cX3_init 5 = .ok (.bipush 80, 2) := by decide +kernel
theorem dX3_init_7 : decode cX3_init 7 = .ok (.newarray .int, 2) := by decide +kernel
theorem dX3_init_9 : decode cX3_init 9 = .ok (.putfield 9, 3) := by decide +kernel
theorem dX3_init_12 : decode cX3_init 12 = .ok (.aload_n 0, 1) := by decide +kernel
theorem dX3_init_13 : decode cX3_init 13 = .ok (.bipush 80, 2) := by decide +kernel
theorem dX3_init_15 : decode cX3_init 15 = .ok (.newarray .int, 2) := by decide +kernel
theorem dX3_init_17 : decode cX3_init 17 = .ok (.putfield 15, 3) := by decide +kernel
theorem dX3_init_20 : decode cX3_init 20 = .ok (.aload_n 0, 1) := by decide +kernel
theorem dX3_init_21 : decode cX3_init 21 = .ok (.bipush 80, 2) := by decide +kernel
theorem dX3_init_23 : decode cX3_init 23 = .ok (.newarray .int, 2) := by decide +kernel
theorem dX3_init_25 : decode cX3_init 25 = .ok (.putfield 18, 3) := by decide +kernel
theorem dX3_init_28 : decode cX3_init 28 = .ok (.aload_n 0, 1) := by decide +kernel
theorem dX3_init_29 : decode cX3_init 29 = .ok (.bipush 80, 2) := by decide +kernel
theorem dX3_init_31 : decode cX3_init 31 = .ok (.newarray .int, 2) := by decide +kernel
theorem dX3_init_33 : decode cX3_init 33 = .ok (.putfield 21, 3) := by decide +kernel
theorem dX3_init_36 : decode cX3_init 36 = .ok (.aload_n 0, 1) := by decide +kernel
theorem dX3_init_37 : decode cX3_init 37 = .ok (.iconst 0, 1) := by decide +kernel
theorem dX3_init_38 : decode cX3_init 38 = .ok (.putfield 24, 3) := by decide +kernel
theorem dX3_init_41 : decode cX3_init 41 = .ok (.aload_n 0, 1) := by decide +kernel
theorem dX3_init_42 : decode cX3_init 42 = .ok (.iconst 0, 1) := by decide +kernel
theorem dX3_init_43 : decode cX3_init 43 = .ok (.putfield 28, 3) := by decide +kernel
theorem dX3_init_46 : decode cX3_init 46 = .ok (.return_, 1) := by decide +kernel
theorem dX3_count_0 : decode cX3_count 0 = .ok (.aload_n 0, 1) := by decide +kernel
theorem dX3_count_1 : decode cX3_count 1 = .ok (.getfield 28, 3) := by decide +kernel
theorem dX3_count_4 : decode cX3_count 4 = .ok (.ireturn, 1) := by decide +kernel
theorem dX3_hasMember_0 : decode cX3_hasMember 0 = .ok (.iload_n 1, 1) := by decide +kernel
theorem dX3_hasMember_1 : decode cX3_hasMember 1 = .ok (.ifCond .lt 15, 3) := by decide +kernel
theorem dX3_hasMember_4 : decode cX3_hasMember 4 = .ok (.iload_n 1, 1) := by decide +kernel
theorem dX3_hasMember_5 : decode cX3_hasMember 5 = .ok (.aload_n 0, 1) := by decide +kernel
theorem dX3_hasMember_6 : decode cX3_hasMember 6 = .ok (.getfield 24, 3) := by decide +kernel
theorem dX3_hasMember_9 : decode cX3_hasMember 9 = .ok (.if_icmp .ge 7, 3) := by decide +kernel
theorem dX3_hasMember_12 : decode cX3_hasMember 12 = .ok (.iconst 1, 1) := by decide +kernel
theorem dX3_hasMember_13 : decode cX3_hasMember 13 = .ok (.goto 4, 3) := by decide +kernel
theorem dX3_hasMember_16 : decode cX3_hasMember 16 = .ok (.iconst 0, 1) := by decide +kernel
theorem dX3_hasMember_17 : decode cX3_hasMember 17 = .ok (.ireturn, 1) := by decide +kernel
theorem dX3_hasRound_0 : decode cX3_hasRound 0 = .ok (.iload_n 1, 1) := by decide +kernel
theorem dX3_hasRound_1 : decode cX3_hasRound 1 = .ok (.ifCond .lt 15, 3) := by decide +kernel
theorem dX3_hasRound_4 : decode cX3_hasRound 4 = .ok (.iload_n 1, 1) := by decide +kernel
theorem dX3_hasRound_5 : decode cX3_hasRound 5 = .ok (.aload_n 0, 1) := by decide +kernel
theorem dX3_hasRound_6 : decode cX3_hasRound 6 = .ok (.getfield 28, 3) := by decide +kernel
theorem dX3_hasRound_9 : decode cX3_hasRound 9 = .ok (.if_icmp .ge 7, 3) := by decide +kernel
theorem dX3_hasRound_12 : decode cX3_hasRound 12 = .ok (.iconst 1, 1) := by decide +kernel
theorem dX3_hasRound_13 : decode cX3_hasRound 13 = .ok (.goto 4, 3) := by decide +kernel
theorem dX3_hasRound_16 : decode cX3_hasRound 16 = .ok (.iconst 0, 1) := by decide +kernel
theorem dX3_hasRound_17 : decode cX3_hasRound 17 = .ok (.ireturn, 1) := by decide +kernel
set_option maxRecDepth 20000 in
theorem ggX3_next_X3_hasMember : GoodIn wsX3_next wsX3_hasMember := goodIn_r _ [6, 7, 8, 9, 10, 11, 12, 13] (by decide +kernel) (by decide +kernel)
set_option maxRecDepth 20000 in
theorem gX3_next_X3_hasMember : GoodIn wsX3_next (wsV RX3 31 RX3 yX3_hasMember wsX3_hasMember) := goodIn_app (goodIn_of _ (by decide +kernel)) ggX3_next_X3_hasMember
theorem dX3_next_0 : decode cX3_next 0 = .ok (.aload_n 0, 1) := by decide +kernel
theorem dX3_next_1 : decode cX3_next 1 = .ok (.iload_n 1, 1) := by decide +kernel
theorem dX3_next_2 : decode cX3_next 2 = .ok (.invokevirtual 31, 3) := by decide +kernel
theorem dX3_next_5 : decode cX3_next 5 = .ok (.ifCond .eq 12, 3) := by decide +kernel
theorem dX3_next_8 : decode cX3_next 8 = .ok (.aload_n 0, 1) := by decide +kernel
theorem dX3_next_9 : decode cX3_next 9 = .ok (.getfield 9, 3) := by decide +kernel
theorem dX3_next_12 : decode cX3_next 12 = .ok (.iload_n 1, 1) := by decide +kernel
theorem dX3_next_13 : decode cX3_next 13 = .ok (.iaload, 1) := by decide +kernel
theorem dX3_next_14 : decode cX3_next 14 = .ok (.goto 4, 3) := by decide +kernel
theorem dX3_next_17 : decode cX3_next 17 = .ok (.iconst (-1), 1) := by decide +kernel
theorem dX3_next_18 : decode cX3_next 18 = .ok (.ireturn, 1) := by decide +kernel
set_option maxRecDepth 20000 in
theorem ggX3_roundOf_X3_hasMember : GoodIn wsX3_roundOf wsX3_hasMember := goodIn_r _ [6, 7, 8, 9, 10, 11, 12, 13] (by decide +kernel) (by decide +kernel)
set_option maxRecDepth 20000 in
theorem gX3_roundOf_X3_hasMember : GoodIn wsX3_roundOf (wsV RX3 31 RX3 yX3_hasMember wsX3_hasMember) := goodIn_app (goodIn_of _ (by decide +kernel)) ggX3_roundOf_X3_hasMember
theorem dX3_roundOf_0 : decode cX3_roundOf 0 = .ok (.aload_n 0, 1) := by decide +kernel
theorem dX3_roundOf_1 : decode cX3_roundOf 1 = .ok (.iload_n 1, 1) := by decide +kernel
theorem dX3_roundOf_2 : decode cX3_roundOf 2 = .ok (.invokevirtual 31, 3) := by decide +kernel
theorem dX3_roundOf_5 : decode cX3_roundOf 5 = .ok (.ifCond .eq 12, 3) := by decide +kernel
theorem dX3_roundOf_8 : decode cX3_roundOf 8 = .ok (.aload_n 0, 1) := by decide +kernel
theorem dX3_roundOf_9 : decode cX3_roundOf 9 = .ok (.getfield 15, 3) := by decide +kernel
theorem dX3_roundOf_12 : decode cX3_roundOf 12 = .ok (.iload_n 1, 1) := by decide +kernel
theorem dX3_roundOf_13 : decode cX3_roundOf 13 = .ok (.iaload, 1) := by decide +kernel
theorem dX3_roundOf_14 : decode cX3_roundOf 14 = .ok (.goto 4, 3) := by decide +kernel
theorem dX3_roundOf_17 : decode cX3_roundOf 17 = .ok (.iconst (-1), 1) := by decide +kernel
theorem dX3_roundOf_18 : decode cX3_roundOf 18 = .ok (.ireturn, 1) := by decide +kernel
set_option maxRecDepth 20000 in
theorem ggX3_first_X3_hasRound : GoodIn wsX3_first wsX3_hasRound := goodIn_r _ [6, 7, 8, 9, 10, 11, 12, 13] (by decide +kernel) (by decide +kernel)
set_option maxRecDepth 20000 in
theorem gX3_first_X3_hasRound : GoodIn wsX3_first (wsV RX3 35 RX3 yX3_hasRound wsX3_hasRound) := goodIn_app (goodIn_of _ (by decide +kernel)) ggX3_first_X3_hasRound
theorem dX3_first_0 : decode cX3_first 0 = .ok (.aload_n 0, 1) := by decide +kernel
theorem dX3_first_1 : decode cX3_first 1 = .ok (.iload_n 1, 1) := by decide +kernel
theorem dX3_first_2 : decode cX3_first 2 = .ok (.invokevirtual 35, 3) := by decide +kernel
theorem dX3_first_5 : decode cX3_first 5 = .ok (.ifCond .eq 12, 3) := by decide +kernel
theorem dX3_first_8 : decode cX3_first 8 = .ok (.aload_n 0, 1) := by decide +kernel
theorem dX3_first_9 : decode cX3_first 9 = .ok (.getfield 18, 3) := by decide +kernel
theorem dX3_first_12 : decode cX3_first 12 = .ok (.iload_n 1, 1) := by decide +kernel
theorem dX3_first_13 : decode cX3_first 13 = .ok (.iaload, 1) := by decide +kernel
theorem dX3_first_14 : decode cX3_first 14 = .ok (.goto 4, 3) := by decide +kernel
theorem dX3_first_17 : decode cX3_first 17 = .ok (.iconst (-1), 1) := by decide +kernel
theorem dX3_first_18 : decode cX3_first 18 = .ok (.ireturn, 1) := by decide +kernel
set_option maxRecDepth 20000 in
theorem ggX3_size_X3_hasRound : GoodIn wsX3_size wsX3_hasRound := goodIn_r _ [6, 7, 8, 9, 10, 11, 12, 13] (by decide +kernel) (by decide +kernel)
set_option maxRecDepth 20000 in
theorem gX3_size_X3_hasRound : GoodIn wsX3_size (wsV RX3 35 RX3 yX3_hasRound wsX3_hasRound) := goodIn_app (goodIn_of _ (by decide +kernel)) ggX3_size_X3_hasRound
theorem dX3_size_0 : decode cX3_size 0 = .ok (.aload_n 0, 1) := by decide +kernel
theorem dX3_size_1 : decode cX3_size 1 = .ok (.iload_n 1, 1) := by decide +kernel
theorem dX3_size_2 : decode cX3_size 2 = .ok (.invokevirtual 35, 3) := by decide +kernel
theorem dX3_size_5 : decode cX3_size 5 = .ok (.ifCond .eq 12, 3) := by decide +kernel
theorem dX3_size_8 : decode cX3_size 8 = .ok (.aload_n 0, 1) := by decide +kernel
theorem dX3_size_9 : decode cX3_size 9 = .ok (.getfield 21, 3) := by decide +kernel
theorem dX3_size_12 : decode cX3_size 12 = .ok (.iload_n 1, 1) := by decide +kernel
theorem dX3_size_13 : decode cX3_size 13 = .ok (.iaload, 1) := by decide +kernel
theorem dX3_size_14 : decode cX3_size 14 = .ok (.goto 4, 3) := by decide +kernel
theorem dX3_size_17 : decode cX3_size 17 = .ok (.iconst 0, 1) := by decide +kernel
theorem dX3_size_18 : decode cX3_size 18 = .ok (.ireturn, 1) := by decide +kernel
set_option maxRecDepth 20000 in
theorem ggX3_member_X3_first : GoodIn wsX3_member wsX3_first := goodIn_r _ [5, 6, 7, 8, 9, 4, 10, 11, 22, 23, 24, 25, 26, 27] (by decide +kernel) (by decide +kernel)
set_option maxRecDepth 20000 in
theorem gX3_member_X3_first : GoodIn wsX3_member (wsV RX3 38 RX3 yX3_first wsX3_first) := goodIn_app (goodIn_of _ (by decide +kernel)) ggX3_member_X3_first
set_option maxRecDepth 20000 in
theorem ggX3_member_X3_next : GoodIn wsX3_member wsX3_next := goodIn_r _ [15, 16, 17, 18, 19, 4, 20, 21, 22, 23, 24, 25, 26, 27] (by decide +kernel) (by decide +kernel)
set_option maxRecDepth 20000 in
theorem gX3_member_X3_next : GoodIn wsX3_member (wsV RX3 41 RX3 yX3_next wsX3_next) := goodIn_app (goodIn_of _ (by decide +kernel)) ggX3_member_X3_next
theorem dX3_member_0 : decode cX3_member 0 = .ok (.aload_n 0, 1) := by decide +kernel
theorem dX3_member_1 : decode cX3_member 1 = .ok (.iload_n 1, 1) := by decide +kernel
theorem dX3_member_2 : decode cX3_member 2 = .ok (.invokevirtual 38, 3) := by decide +kernel
theorem dX3_member_5 : decode cX3_member 5 = .ok (.istore_n 3, 1) := by decide +kernel
theorem dX3_member_6 : decode cX3_member 6 = .ok (.iconst 0, 1) := by decide +kernel
theorem dX3_member_7 : decode cX3_member 7 = .ok (.istore 4, 2) := by decide +kernel
theorem dX3_member_9 : decode cX3_member 9 = .ok (.iload 4, 2) := by decide +kernel
theorem dX3_member_11 : decode cX3_member 11 = .ok (.iload_n 2, 1) := by decide +kernel
theorem dX3_member_12 : decode cX3_member 12 = .ok (.if_icmp .ge 22, 3) := by decide +kernel
theorem dX3_member_15 : decode cX3_member 15 = .ok (.iload 4, 2) := by decide +kernel
theorem dX3_member_17 : decode cX3_member 17 = .ok (.bipush 80, 2) := by decide +kernel
theorem dX3_member_19 : decode cX3_member 19 = .ok (.if_icmp .ge 15, 3) := by decide +kernel
theorem dX3_member_22 : decode cX3_member 22 = .ok (.aload_n 0, 1) := by decide +kernel
theorem dX3_member_23 : decode cX3_member 23 = .ok (.iload_n 3, 1) := by decide +kernel
theorem dX3_member_24 : decode cX3_member 24 = .ok (.invokevirtual 41, 3) := by decide +kernel
theorem dX3_member_27 : decode cX3_member 27 = .ok (.istore_n 3, 1) := by decide +kernel
theorem dX3_member_28 : decode cX3_member 28 = .ok (.iinc 4 1, 3) := by decide +kernel
theorem dX3_member_31 : decode cX3_member 31 = .ok (.goto (-22), 3) := by decide +kernel
theorem dX3_member_34 : decode cX3_member 34 = .ok (.iload_n 3, 1) := by decide +kernel
theorem dX3_member_35 : decode cX3_member 35 = .ok (.ireturn, 1) := by decide +kernel
theorem dX3_begin_0 : decode cX3_begin 0 = .ok (.aload_n 0, 1) := by decide +kernel
theorem dX3_begin_1 : decode cX3_begin 1 = .ok (.iload_n 1, 1) := by decide +kernel
theorem dX3_begin_2 : decode cX3_begin 2 = .ok (.bipush 80, 2) := by decide +kernel
theorem dX3_begin_4 : decode cX3_begin 4 = .ok (.invokestatic 43, 3) := by decide +kernel
theorem dX3_begin_7 : decode cX3_begin 7 = .ok (.putfield 24, 3) := by decide +kernel
theorem dX3_begin_10 : decode cX3_begin 10 = .ok (.aload_n 0, 1) := by decide +kernel
theorem dX3_begin_11 : decode cX3_begin 11 = .ok (.iconst 0, 1) := by decide +kernel
theorem dX3_begin_12 : decode cX3_begin 12 = .ok (.putfield 28, 3) := by decide +kernel
theorem dX3_begin_15 : decode cX3_begin 15 = .ok (.return_, 1) := by decide +kernel
set_option maxRecDepth 20000 in
theorem ggX3_link_X3_hasMember : GoodIn wsX3_link wsX3_hasMember := goodIn_r _ [6, 7, 8, 9, 10, 11, 12, 13] (by decide +kernel) (by decide +kernel)
set_option maxRecDepth 20000 in
theorem gX3_link_X3_hasMember : GoodIn wsX3_link (wsV RX3 31 RX3 yX3_hasMember wsX3_hasMember) := goodIn_app (goodIn_of _ (by decide +kernel)) ggX3_link_X3_hasMember
theorem dX3_link_0 : decode cX3_link 0 = .ok (.aload_n 0, 1) := by decide +kernel
theorem dX3_link_1 : decode cX3_link 1 = .ok (.iload_n 1, 1) := by decide +kernel
theorem dX3_link_2 : decode cX3_link 2 = .ok (.invokevirtual 31, 3) := by decide +kernel
theorem dX3_link_5 : decode cX3_link 5 = .ok (.ifCond .eq 10, 3) := by decide +kernel
theorem dX3_link_8 : decode cX3_link 8 = .ok (.aload_n 0, 1) := by decide +kernel
theorem dX3_link_9 : decode cX3_link 9 = .ok (.getfield 9, 3) := by decide +kernel
theorem dX3_link_12 : decode cX3_link 12 = .ok (.iload_n 1, 1) := by decide +kernel
theorem dX3_link_13 : decode cX3_link 13 = .ok (.iload_n 2, 1) := by decide +kernel
theorem dX3_link_14 : decode cX3_link 14 = .ok (.iastore, 1) := by decide +kernel
theorem dX3_link_15 : decode cX3_link 15 = .ok (.return_, 1) := by decide +kernel
set_option maxRecDepth 20000 in
theorem ggX3_trace_J7_fill_53178 : GoodIn wsX3_trace wsJ7_fill_53178 := goodIn_r _ [6] (by decide +kernel) (by decide +kernel)
set_option maxRecDepth 20000 in
theorem gX3_trace_J7_fill_53178 : GoodIn wsX3_trace (va_wsS RX3 49 yJ7_fill_53178 wsJ7_fill_53178) := goodIn_app (goodIn_of _ (by decide +kernel)) ggX3_trace_J7_fill_53178
set_option maxRecDepth 20000 in
theorem ggX3_trace_X3_walk : GoodIn wsX3_trace wsX3_walk := goodIn_r _ [11, 12, 2, 1, 13, 14, 15, 16, 17, 18, 10, 19, 20, 21, 22, 23, 24, 25] (by decide +kernel) (by decide +kernel)
set_option maxRecDepth 20000 in
theorem gX3_trace_X3_walk : GoodIn wsX3_trace (wsV RX3 55 RX3 yX3_walk wsX3_walk) := goodIn_app (goodIn_of _ (by decide +kernel)) ggX3_trace_X3_walk
theorem dX3_trace_0 : decode cX3_trace 0 = .ok (.aload_n 0, 1) := by decide +kernel
theorem dX3_trace_1 : decode cX3_trace 1 = .ok (.getfield 15, 3) := by decide +kernel
theorem dX3_trace_4 : decode cX3_trace 4 = .ok (.iconst (-1), 1) := by decide +kernel
theorem dX3_trace_5 : decode cX3_trace 5 = .ok (.invokestatic 49, 3) := by decide +kernel
theorem dX3_trace_8 : decode cX3_trace 8 = .ok (.iconst 0, 1) := by decide +kernel
theorem dX3_trace_9 : decode cX3_trace 9 = .ok (.istore_n 1, 1) := by decide +kernel
theorem dX3_trace_10 : decode cX3_trace 10 = .ok (.iload_n 1, 1) := by decide +kernel
theorem dX3_trace_11 : decode cX3_trace 11 = .ok (.aload_n 0, 1) := by decide +kernel
theorem dX3_trace_12 : decode cX3_trace 12 = .ok (.getfield 24, 3) := by decide +kernel
theorem dX3_trace_15 : decode cX3_trace 15 = .ok (.if_icmp .ge 23, 3) := by decide +kernel
theorem dX3_trace_18 : decode cX3_trace 18 = .ok (.aload_n 0, 1) := by decide +kernel
theorem dX3_trace_19 : decode cX3_trace 19 = .ok (.getfield 15, 3) := by decide +kernel
theorem dX3_trace_22 : decode cX3_trace 22 = .ok (.iload_n 1, 1) := by decide +kernel
theorem dX3_trace_23 : decode cX3_trace 23 = .ok (.iaload, 1) := by decide +kernel
theorem dX3_trace_24 : decode cX3_trace 24 = .ok (.ifCond .ge 8, 3) := by decide +kernel
theorem dX3_trace_27 : decode cX3_trace 27 = .ok (.aload_n 0, 1) := by decide +kernel
theorem dX3_trace_28 : decode cX3_trace 28 = .ok (.iload_n 1, 1) := by decide +kernel
theorem dX3_trace_29 : decode cX3_trace 29 = .ok (.invokevirtual 55, 3) := by decide +kernel
theorem dX3_trace_32 : decode cX3_trace 32 = .ok (.iinc 1 1, 3) := by decide +kernel
theorem dX3_trace_35 : decode cX3_trace 35 = .ok (.goto (-25), 3) := by decide +kernel
theorem dX3_trace_38 : decode cX3_trace 38 = .ok (.return_, 1) := by decide +kernel
set_option maxRecDepth 20000 in
theorem ggX3_walk_X3_hasMember : GoodIn wsX3_walk wsX3_hasMember := goodIn_r _ [11, 2, 12, 13, 14, 15, 16, 17] (by decide +kernel) (by decide +kernel)
set_option maxRecDepth 20000 in
theorem gX3_walk_X3_hasMember : GoodIn wsX3_walk (wsV RX3 31 RX3 yX3_hasMember wsX3_hasMember) := goodIn_app (goodIn_of _ (by decide +kernel)) ggX3_walk_X3_hasMember
theorem dX3_walk_0 : decode cX3_walk 0 = .ok (.aload_n 0, 1) := by decide +kernel
theorem dX3_walk_1 : decode cX3_walk 1 = .ok (.getfield 28, 3) := by decide +kernel
theorem dX3_walk_4 : decode cX3_walk 4 = .ok (.bipush 80, 2) := by decide +kernel
theorem dX3_walk_6 : decode cX3_walk 6 = .ok (.if_icmp .lt 4, 3) := by decide +kernel
theorem dX3_walk_9 : decode cX3_walk 9 = .ok (.return_, 1) := by decide +kernel
theorem dX3_walk_10 : decode cX3_walk 10 = .ok (.iconst 0, 1) := by decide +kernel
theorem dX3_walk_11 : decode cX3_walk 11 = .ok (.istore_n 2, 1) := by decide +kernel
theorem dX3_walk_12 : decode cX3_walk 12 = .ok (.iload_n 1, 1) := by decide +kernel
theorem dX3_walk_13 : decode cX3_walk 13 = .ok (.istore_n 3, 1) := by decide +kernel
theorem dX3_walk_14 : decode cX3_walk 14 = .ok (.iload_n 2, 1) := by decide +kernel
theorem dX3_walk_15 : decode cX3_walk 15 = .ok (.aload_n 0, 1) := by decide +kernel
theorem dX3_walk_16 : decode cX3_walk 16 = .ok (.getfield 24, 3) := by decide +kernel
theorem dX3_walk_19 : decode cX3_walk 19 = .ok (.if_icmp .ge 43, 3) := by decide +kernel
theorem dX3_walk_22 : decode cX3_walk 22 = .ok (.aload_n 0, 1) := by decide +kernel
theorem dX3_walk_23 : decode cX3_walk 23 = .ok (.iload_n 3, 1) := by decide +kernel
theorem dX3_walk_24 : decode cX3_walk 24 = .ok (.invokevirtual 31, 3) := by decide +kernel
theorem dX3_walk_27 : decode cX3_walk 27 = .ok (.ifCond .eq 35, 3) := by decide +kernel
theorem dX3_walk_30 : decode cX3_walk 30 = .ok (.aload_n 0, 1) := by decide +kernel
theorem dX3_walk_31 : decode cX3_walk 31 = .ok (.getfield 15, 3) := by decide +kernel
theorem dX3_walk_34 : decode cX3_walk 34 = .ok (.iload_n 3, 1) := by decide +kernel
theorem dX3_walk_35 : decode cX3_walk 35 = .ok (.iaload, 1) := by decide +kernel
theorem dX3_walk_36 : decode cX3_walk 36 = .ok (.ifCond .ge 26, 3) := by decide +kernel
theorem dX3_walk_39 : decode cX3_walk 39 = .ok (.aload_n 0, 1) := by decide +kernel
theorem dX3_walk_40 : decode cX3_walk 40 = .ok (.getfield 15, 3) := by decide +kernel
theorem dX3_walk_43 : decode cX3_walk 43 = .ok (.iload_n 3, 1) := by decide +kernel
theorem dX3_walk_44 : decode cX3_walk 44 = .ok (.aload_n 0, 1) := by decide +kernel
theorem dX3_walk_45 : decode cX3_walk 45 = .ok (.getfield 28, 3) := by decide +kernel
theorem dX3_walk_48 : decode cX3_walk 48 = .ok (.iastore, 1) := by decide +kernel
theorem dX3_walk_49 : decode cX3_walk 49 = .ok (.aload_n 0, 1) := by decide +kernel
theorem dX3_walk_50 : decode cX3_walk 50 = .ok (.getfield 9, 3) := by decide +kernel
theorem dX3_walk_53 : decode cX3_walk 53 = .ok (.iload_n 3, 1) := by decide +kernel
theorem dX3_walk_54 : decode cX3_walk 54 = .ok (.iaload, 1) := by decide +kernel
theorem dX3_walk_55 : decode cX3_walk 55 = .ok (.istore_n 3, 1) := by decide +kernel
theorem dX3_walk_56 : decode cX3_walk 56 = .ok (.iinc 2 1, 3) := by decide +kernel
theorem dX3_walk_59 : decode cX3_walk 59 = .ok (.goto (-45), 3) := by decide +kernel
theorem dX3_walk_62 : decode cX3_walk 62 = .ok (.aload_n 0, 1) := by decide +kernel
theorem dX3_walk_63 : decode cX3_walk 63 = .ok (.getfield 18, 3) := by decide +kernel
theorem dX3_walk_66 : decode cX3_walk 66 = .ok (.aload_n 0, 1) := by decide +kernel
theorem dX3_walk_67 : decode cX3_walk 67 = .ok (.getfield 28, 3) := by decide +kernel
theorem dX3_walk_70 : decode cX3_walk 70 = .ok (.iload_n 1, 1) := by decide +kernel
theorem dX3_walk_71 : decode cX3_walk 71 = .ok (.iastore, 1) := by decide +kernel
theorem dX3_walk_72 : decode cX3_walk 72 = .ok (.aload_n 0, 1) := by decide +kernel
theorem dX3_walk_73 : decode cX3_walk 73 = .ok (.getfield 21, 3) := by decide +kernel
theorem dX3_walk_76 : decode cX3_walk 76 = .ok (.aload_n 0, 1) := by decide +kernel
theorem dX3_walk_77 : decode cX3_walk 77 = .ok (.getfield 28, 3) := by decide +kernel
theorem dX3_walk_80 : decode cX3_walk 80 = .ok (.iload_n 2, 1) := by decide +kernel
theorem dX3_walk_81 : decode cX3_walk 81 = .ok (.iastore, 1) := by decide +kernel
theorem dX3_walk_82 : decode cX3_walk 82 = .ok (.aload_n 0, 1) := by decide +kernel
theorem dX3_walk_83 : decode cX3_walk 83 = .ok (.dup, 1) := by decide +kernel
theorem dX3_walk_84 : decode cX3_walk 84 = .ok (.getfield 28, 3) := by decide +kernel
theorem dX3_walk_87 : decode cX3_walk 87 = .ok (.iconst 1, 1) := by decide +kernel
theorem dX3_walk_88 : decode cX3_walk 88 = .ok (.iadd, 1) := by decide +kernel
theorem dX3_walk_89 : decode cX3_walk 89 = .ok (.putfield 28, 3) := by decide +kernel
theorem dX3_walk_92 : decode cX3_walk 92 = .ok (.return_, 1) := by decide +kernel
theorem dX4_init_0 : decode cX4_init 0 = .ok (.aload_n 0, 1) := by decide +kernel
theorem dX4_init_1 : decode cX4_init 1 = .ok (.invokespecial 3, 3) := by decide +kernel
theorem dX4_init_4 : decode cX4_init 4 = .ok (.aload_n 0, 1) := by decide +kernel
theorem dX4_init_5 : decode cX4_init 5 = .ok (.bipush 20, 2) := by decide +kernel
theorem dX4_init_7 : decode cX4_init 7 = .ok (.newarray .int, 2) := by decide +kernel
theorem dX4_init_9 : decode cX4_init 9 = .ok (.putfield 9, 3) := by decide +kernel
theorem dX4_init_12 : decode cX4_init 12 = .ok (.aload_n 0, 1) := by decide +kernel
theorem dX4_init_13 : decode cX4_init 13 = .ok (.bipush 80, 2) := by decide +kernel
theorem dX4_init_15 : decode cX4_init 15 = .ok (.newarray .int, 2) := by decide +kernel
theorem dX4_init_17 : decode cX4_init 17 = .ok (.putfield 15, 3) := by decide +kernel
theorem dX4_init_20 : decode cX4_init 20 = .ok (.aload_n 0, 1) := by decide +kernel
theorem dX4_init_21 : decode cX4_init 21 = .ok (.iconst 0, 1) := by decide +kernel
theorem dX4_init_22 : decode cX4_init 22 = .ok (.putfield 18, 3) := by decide +kernel
theorem dX4_init_25 : decode cX4_init 25 = .ok (.return_, 1) := by decide +kernel
theorem dX4_crossings_0 : decode cX4_crossings 0 = .ok (.aload_n 0, 1) := by decide +kernel
theorem dX4_crossings_1 : decode cX4_crossings 1 = .ok (.getfield 18, 3) := by decide +kernel
theorem dX4_crossings_4 : decode cX4_crossings 4 = .ok (.ireturn, 1) := by decide +kernel
theorem dX4_spots_0 : decode cX4_spots 0 = .ok (.iconst 4, 1) := by decide +kernel
theorem dX4_spots_1 : decode cX4_spots 1 = .ok (.aload_n 0, 1) := by decide +kernel
theorem dX4_spots_2 : decode cX4_spots 2 = .ok (.getfield 18, 3) := by decide +kernel
theorem dX4_spots_5 : decode cX4_spots 5 = .ok (.imul, 1) := by decide +kernel
theorem dX4_spots_6 : decode cX4_spots 6 = .ok (.ireturn, 1) := by decide +kernel
theorem dX4_has_0 : decode cX4_has 0 = .ok (.iload_n 1, 1) := by decide +kernel
theorem dX4_has_1 : decode cX4_has 1 = .ok (.ifCond .lt 15, 3) := by decide +kernel
theorem dX4_has_4 : decode cX4_has 4 = .ok (.iload_n 1, 1) := by decide +kernel
theorem dX4_has_5 : decode cX4_has 5 = .ok (.aload_n 0, 1) := by decide +kernel
theorem dX4_has_6 : decode cX4_has 6 = .ok (.getfield 18, 3) := by decide +kernel
theorem dX4_has_9 : decode cX4_has 9 = .ok (.if_icmp .ge 7, 3) := by decide +kernel
theorem dX4_has_12 : decode cX4_has 12 = .ok (.iconst 1, 1) := by decide +kernel
theorem dX4_has_13 : decode cX4_has 13 = .ok (.goto 4, 3) := by decide +kernel
theorem dX4_has_16 : decode cX4_has 16 = .ok (.iconst 0, 1) := by decide +kernel
theorem dX4_has_17 : decode cX4_has 17 = .ok (.ireturn, 1) := by decide +kernel
set_option maxRecDepth 20000 in
theorem ggX4_sign_X4_has : GoodIn wsX4_sign wsX4_has := goodIn_r _ [6, 7, 8, 9, 10] (by decide +kernel) (by decide +kernel)
set_option maxRecDepth 20000 in
theorem gX4_sign_X4_has : GoodIn wsX4_sign (wsV RX4 22 RX4 yX4_has wsX4_has) := goodIn_app (goodIn_of _ (by decide +kernel)) ggX4_sign_X4_has
theorem dX4_sign_0 : decode cX4_sign 0 = .ok (.aload_n 0, 1) := by decide +kernel
theorem dX4_sign_1 : decode cX4_sign 1 = .ok (.iload_n 1, 1) := by decide +kernel
theorem dX4_sign_2 : decode cX4_sign 2 = .ok (.invokevirtual 22, 3) := by decide +kernel
theorem dX4_sign_5 : decode cX4_sign 5 = .ok (.ifCond .eq 12, 3) := by decide +kernel
theorem dX4_sign_8 : decode cX4_sign 8 = .ok (.aload_n 0, 1) := by decide +kernel
theorem dX4_sign_9 : decode cX4_sign 9 = .ok (.getfield 9, 3) := by decide +kernel
theorem dX4_sign_12 : decode cX4_sign 12 = .ok (.iload_n 1, 1) := by decide +kernel
theorem dX4_sign_13 : decode cX4_sign 13 = .ok (.iaload, 1) := by decide +kernel
theorem dX4_sign_14 : decode cX4_sign 14 = .ok (.goto 4, 3) := by decide +kernel
theorem dX4_sign_17 : decode cX4_sign 17 = .ok (.iconst 0, 1) := by decide +kernel
theorem dX4_sign_18 : decode cX4_sign 18 = .ok (.ireturn, 1) := by decide +kernel
set_option maxRecDepth 20000 in
theorem ggX4_label_X4_spots : GoodIn wsX4_label wsX4_spots := goodIn_r _ [6, 7, 8, 9, 10] (by decide +kernel) (by decide +kernel)
set_option maxRecDepth 20000 in
theorem gX4_label_X4_spots : GoodIn wsX4_label (wsV RX4 26 RX4 yX4_spots wsX4_spots) := goodIn_app (goodIn_of _ (by decide +kernel)) ggX4_label_X4_spots
theorem dX4_label_0 : decode cX4_label 0 = .ok (.iload_n 1, 1) := by decide +kernel
theorem dX4_label_1 : decode cX4_label 1 = .ok (.ifCond .lt 20, 3) := by decide +kernel
theorem dX4_label_4 : decode cX4_label 4 = .ok (.iload_n 1, 1) := by decide +kernel
theorem dX4_label_5 : decode cX4_label 5 = .ok (.aload_n 0, 1) := by decide +kernel
theorem dX4_label_6 : decode cX4_label 6 = .ok (.invokevirtual 26, 3) := by decide +kernel
theorem dX4_label_9 : decode cX4_label 9 = .ok (.if_icmp .ge 12, 3) := by decide +kernel
theorem dX4_label_12 : decode cX4_label 12 = .ok (.aload_n 0, 1) := by decide +kernel
theorem dX4_label_13 : decode cX4_label 13 = .ok (.getfield 15, 3) := by decide +kernel
theorem dX4_label_16 : decode cX4_label 16 = .ok (.iload_n 1, 1) := by decide +kernel
theorem dX4_label_17 : decode cX4_label 17 = .ok (.iaload, 1) := by decide +kernel
theorem dX4_label_18 : decode cX4_label 18 = .ok (.goto 4, 3) := by decide +kernel
theorem dX4_label_21 : decode cX4_label 21 = .ok (.iconst 0, 1) := by decide +kernel
theorem dX4_label_22 : decode cX4_label 22 = .ok (.ireturn, 1) := by decide +kernel
set_option maxRecDepth 20000 in
theorem ggX4_setLabel_X4_spots : GoodIn wsX4_setLabel wsX4_spots := goodIn_r _ [6, 7, 8, 9, 10] (by decide +kernel) (by decide +kernel)
set_option maxRecDepth 20000 in
theorem gX4_setLabel_X4_spots : GoodIn wsX4_setLabel (wsV RX4 26 RX4 yX4_spots wsX4_spots) := goodIn_app (goodIn_of _ (by decide +kernel)) ggX4_setLabel_X4_spots
theorem dX4_setLabel_0 : decode cX4_setLabel 0 = .ok (.iload_n 1, 1) := by decide +kernel
theorem dX4_setLabel_1 : decode cX4_setLabel 1 = .ok (.ifCond .lt 18, 3) := by decide +kernel
theorem dX4_setLabel_4 : decode cX4_setLabel 4 = .ok (.iload_n 1, 1) := by decide +kernel
theorem dX4_setLabel_5 : decode cX4_setLabel 5 = .ok (.aload_n 0, 1) := by decide +kernel
theorem dX4_setLabel_6 : decode cX4_setLabel 6 = .ok (.invokevirtual 26, 3) := by decide +kernel
theorem dX4_setLabel_9 : decode cX4_setLabel 9 = .ok (.if_icmp .ge 10, 3) := by decide +kernel
theorem dX4_setLabel_12 : decode cX4_setLabel 12 = .ok (.aload_n 0, 1) := by decide +kernel
theorem dX4_setLabel_13 : decode cX4_setLabel 13 = .ok (.getfield 15, 3) := by decide +kernel
theorem dX4_setLabel_16 : decode cX4_setLabel 16 = .ok (.iload_n 1, 1) := by decide +kernel
theorem dX4_setLabel_17 : decode cX4_setLabel 17 = .ok (.iload_n 2, 1) := by decide +kernel
theorem dX4_setLabel_18 : decode cX4_setLabel 18 = .ok (.iastore, 1) := by decide +kernel
theorem dX4_setLabel_19 : decode cX4_setLabel 19 = .ok (.return_, 1) := by decide +kernel
theorem dX4_clear_0 : decode cX4_clear 0 = .ok (.aload_n 0, 1) := by decide +kernel
theorem dX4_clear_1 : decode cX4_clear 1 = .ok (.iconst 0, 1) := by decide +kernel
theorem dX4_clear_2 : decode cX4_clear 2 = .ok (.putfield 18, 3) := by decide +kernel
theorem dX4_clear_5 : decode cX4_clear 5 = .ok (.return_, 1) := by decide +kernel
theorem dX4_append_0 : decode cX4_append 0 = .ok (.aload_n 0, 1) := by decide +kernel
theorem dX4_append_1 : decode cX4_append 1 = .ok (.getfield 18, 3) := by decide +kernel
theorem dX4_append_4 : decode cX4_append 4 = .ok (.bipush 20, 2) := by decide +kernel
theorem dX4_append_6 : decode cX4_append 6 = .ok (.if_icmp .lt 5, 3) := by decide +kernel
theorem dX4_append_9 : decode cX4_append 9 = .ok (.iconst 0, 1) := by decide +kernel
theorem dX4_append_10 : decode cX4_append 10 = .ok (.ireturn, 1) := by decide +kernel
theorem dX4_append_11 : decode cX4_append 11 = .ok (.iconst 4, 1) := by decide +kernel
theorem dX4_append_12 : decode cX4_append 12 = .ok (.aload_n 0, 1) := by decide +kernel
theorem dX4_append_13 : decode cX4_append 13 = .ok (.getfield 18, 3) := by decide +kernel
theorem dX4_append_16 : decode cX4_append 16 = .ok (.imul, 1) := by decide +kernel
theorem dX4_append_17 : decode cX4_append 17 = .ok (.istore 6, 2) := by decide +kernel
theorem dX4_append_19 : decode cX4_append 19 = .ok (.aload_n 0, 1) := by decide +kernel
theorem dX4_append_20 : decode cX4_append 20 = .ok (.getfield 9, 3) := by decide +kernel
theorem dX4_append_23 : decode cX4_append 23 = .ok (.aload_n 0, 1) := by decide +kernel
theorem dX4_append_24 : decode cX4_append 24 = .ok (.getfield 18, 3) := by decide +kernel
theorem dX4_append_27 : decode cX4_append 27 = .ok (.iload_n 1, 1) := by decide +kernel
theorem dX4_append_28 : decode cX4_append 28 = .ok (.iastore, 1) := by decide +kernel
theorem dX4_append_29 : decode cX4_append 29 = .ok (.aload_n 0, 1) := by decide +kernel
theorem dX4_append_30 : decode cX4_append 30 = .ok (.getfield 15, 3) := by decide +kernel
theorem dX4_append_33 : decode cX4_append 33 = .ok (.iload 6, 2) := by decide +kernel
theorem dX4_append_35 : decode cX4_append 35 = .ok (.iload_n 2, 1) := by decide +kernel
theorem dX4_append_36 : decode cX4_append 36 = .ok (.iastore, 1) := by decide +kernel
theorem dX4_append_37 : decode cX4_append 37 = .ok (.aload_n 0, 1) := by decide +kernel
theorem dX4_append_38 : decode cX4_append 38 = .ok (.getfield 15, 3) := by decide +kernel
theorem dX4_append_41 : decode cX4_append 41 = .ok (.iload 6, 2) := by decide +kernel
theorem dX4_append_43 : decode cX4_append 43 = .ok (.iconst 1, 1) := by decide +kernel
theorem dX4_append_44 : decode cX4_append 44 = .ok (.iadd, 1) := by decide +kernel
theorem dX4_append_45 : decode cX4_append 45 = .ok (.iload_n 3, 1) := by decide +kernel
theorem dX4_append_46 : decode cX4_append 46 = .ok (.iastore, 1) := by decide +kernel
theorem dX4_append_47 : decode cX4_append 47 = .ok (.aload_n 0, 1) := by decide +kernel
theorem dX4_append_48 : decode cX4_append 48 = .ok (.getfield 15, 3) := by decide +kernel
theorem dX4_append_51 : decode cX4_append 51 = .ok (.iload 6, 2) := by decide +kernel
theorem dX4_append_53 : decode cX4_append 53 = .ok (.iconst 2, 1) := by decide +kernel
theorem dX4_append_54 : decode cX4_append 54 = .ok (.iadd, 1) := by decide +kernel
theorem dX4_append_55 : decode cX4_append 55 = .ok (.iload 4, 2) := by decide +kernel
theorem dX4_append_57 : decode cX4_append 57 = .ok (.iastore, 1) := by decide +kernel
theorem dX4_append_58 : decode cX4_append 58 = .ok (.aload_n 0, 1) := by decide +kernel
theorem dX4_append_59 : decode cX4_append 59 = .ok (.getfield 15, 3) := by decide +kernel
theorem dX4_append_62 : decode cX4_append 62 = .ok (.iload 6, 2) := by decide +kernel
theorem dX4_append_64 : decode cX4_append 64 = .ok (.iconst 3, 1) := by decide +kernel
theorem dX4_append_65 : decode cX4_append 65 = .ok (.iadd, 1) := by decide +kernel
theorem dX4_append_66 : decode cX4_append 66 = .ok (.iload 5, 2) := by decide +kernel
theorem dX4_append_68 : decode cX4_append 68 = .ok (.iastore, 1) := by decide +kernel
theorem dX4_append_69 : decode cX4_append 69 = .ok (.aload_n 0, 1) := by decide +kernel
theorem dX4_append_70 : decode cX4_append 70 = .ok (.dup, 1) := by decide +kernel
theorem dX4_append_71 : decode cX4_append 71 = .ok (.getfield 18, 3) := by decide +kernel
theorem dX4_append_74 : decode cX4_append 74 = .ok (.iconst 1, 1) := by decide +kernel
theorem dX4_append_75 : decode cX4_append 75 = .ok (.iadd, 1) := by decide +kernel
theorem dX4_append_76 : decode cX4_append 76 = .ok (.putfield 18, 3) := by decide +kernel
theorem dX4_append_79 : decode cX4_append 79 = .ok (.iconst 1, 1) := by decide +kernel
theorem dX4_append_80 : decode cX4_append 80 = .ok (.ireturn, 1) := by decide +kernel
set_option maxRecDepth 20000 in
theorem ggX4_upperIn_X4_sign : GoodIn wsX4_upperIn wsX4_sign := goodIn_r _ [5, 6, 7, 8, 9, 4, 10, 11, 12, 13, 14] (by decide +kernel) (by decide +kernel)
set_option maxRecDepth 20000 in
theorem gX4_upperIn_X4_sign : GoodIn wsX4_upperIn (wsV RX4 30 RX4 yX4_sign wsX4_sign) := goodIn_app (goodIn_of _ (by decide +kernel)) ggX4_upperIn_X4_sign
theorem dX4_upperIn_0 : decode cX4_upperIn 0 = .ok (.iconst 4, 1) := by decide +kernel
theorem dX4_upperIn_1 : decode cX4_upperIn 1 = .ok (.iload_n 1, 1) := by decide +kernel
theorem dX4_upperIn_2 : decode cX4_upperIn 2 = .ok (.imul, 1) := by decide +kernel
theorem dX4_upperIn_3 : decode cX4_upperIn 3 = .ok (.aload_n 0, 1) := by decide +kernel
theorem dX4_upperIn_4 : decode cX4_upperIn 4 = .ok (.iload_n 1, 1) := by decide +kernel
theorem dX4_upperIn_5 : decode cX4_upperIn 5 = .ok (.invokevirtual 30, 3) := by decide +kernel
theorem dX4_upperIn_8 : decode cX4_upperIn 8 = .ok (.iconst 1, 1) := by decide +kernel
theorem dX4_upperIn_9 : decode cX4_upperIn 9 = .ok (.if_icmp .ne 7, 3) := by decide +kernel
theorem dX4_upperIn_12 : decode cX4_upperIn 12 = .ok (.iconst 3, 1) := by decide +kernel
theorem dX4_upperIn_13 : decode cX4_upperIn 13 = .ok (.goto 4, 3) := by decide +kernel
theorem dX4_upperIn_16 : decode cX4_upperIn 16 = .ok (.iconst 1, 1) := by decide +kernel
theorem dX4_upperIn_17 : decode cX4_upperIn 17 = .ok (.iadd, 1) := by decide +kernel
theorem dX4_upperIn_18 : decode cX4_upperIn 18 = .ok (.ireturn, 1) := by decide +kernel
set_option maxRecDepth 20000 in
theorem ggX4_upperOut_X4_sign : GoodIn wsX4_upperOut wsX4_sign := goodIn_r _ [5, 6, 7, 8, 9, 4, 10, 11, 12, 13, 14] (by decide +kernel) (by decide +kernel)
set_option maxRecDepth 20000 in
theorem gX4_upperOut_X4_sign : GoodIn wsX4_upperOut (wsV RX4 30 RX4 yX4_sign wsX4_sign) := goodIn_app (goodIn_of _ (by decide +kernel)) ggX4_upperOut_X4_sign
theorem dX4_upperOut_0 : decode cX4_upperOut 0 = .ok (.iconst 4, 1) := by decide +kernel
theorem dX4_upperOut_1 : decode cX4_upperOut 1 = .ok (.iload_n 1, 1) := by decide +kernel
theorem dX4_upperOut_2 : decode cX4_upperOut 2 = .ok (.imul, 1) := by decide +kernel
theorem dX4_upperOut_3 : decode cX4_upperOut 3 = .ok (.aload_n 0, 1) := by decide +kernel
theorem dX4_upperOut_4 : decode cX4_upperOut 4 = .ok (.iload_n 1, 1) := by decide +kernel
theorem dX4_upperOut_5 : decode cX4_upperOut 5 = .ok (.invokevirtual 30, 3) := by decide +kernel
theorem dX4_upperOut_8 : decode cX4_upperOut 8 = .ok (.iconst 1, 1) := by decide +kernel
theorem dX4_upperOut_9 : decode cX4_upperOut 9 = .ok (.if_icmp .ne 7, 3) := by decide +kernel
theorem dX4_upperOut_12 : decode cX4_upperOut 12 = .ok (.iconst 1, 1) := by decide +kernel
theorem dX4_upperOut_13 : decode cX4_upperOut 13 = .ok (.goto 4, 3) := by decide +kernel
theorem dX4_upperOut_16 : decode cX4_upperOut 16 = .ok (.iconst 3, 1) := by decide +kernel
theorem dX4_upperOut_17 : decode cX4_upperOut 17 = .ok (.iadd, 1) := by decide +kernel
theorem dX4_upperOut_18 : decode cX4_upperOut 18 = .ok (.ireturn, 1) := by decide +kernel
set_option maxRecDepth 20000 in
theorem ggX4_goesOut_X4_lowerOut : GoodIn wsX4_goesOut wsX4_lowerOut := goodIn_r _ [4] (by decide +kernel) (by decide +kernel)
set_option maxRecDepth 20000 in
theorem gX4_goesOut_X4_lowerOut : GoodIn wsX4_goesOut (va_wsS RX4 34 yX4_lowerOut wsX4_lowerOut) := goodIn_app (goodIn_of _ (by decide +kernel)) ggX4_goesOut_X4_lowerOut
set_option maxRecDepth 20000 in
theorem ggX4_goesOut_X4_upperOut : GoodIn wsX4_goesOut wsX4_upperOut := goodIn_r _ [8, 9, 10, 11, 3, 12, 13, 14, 15, 16, 17, 18, 19, 20, 21] (by decide +kernel) (by decide +kernel)
set_option maxRecDepth 20000 in
theorem gX4_goesOut_X4_upperOut : GoodIn wsX4_goesOut (wsV RX4 37 RX4 yX4_upperOut wsX4_upperOut) := goodIn_app (goodIn_of _ (by decide +kernel)) ggX4_goesOut_X4_upperOut
theorem dX4_goesOut_0 : decode cX4_goesOut 0 = .ok (.iload_n 1, 1) := by decide +kernel
theorem dX4_goesOut_1 : decode cX4_goesOut 1 = .ok (.iconst 4, 1) := by decide +kernel
theorem dX4_goesOut_2 : decode cX4_goesOut 2 = .ok (.idiv, 1) := by decide +kernel
theorem dX4_goesOut_3 : decode cX4_goesOut 3 = .ok (.istore_n 2, 1) := by decide +kernel
theorem dX4_goesOut_4 : decode cX4_goesOut 4 = .ok (.iload_n 1, 1) := by decide +kernel
theorem dX4_goesOut_5 : decode cX4_goesOut 5 = .ok (.iload_n 2, 1) := by decide +kernel
theorem dX4_goesOut_6 : decode cX4_goesOut 6 = .ok (.invokestatic 34, 3) := by decide +kernel
theorem dX4_goesOut_9 : decode cX4_goesOut 9 = .ok (.if_icmp .eq 12, 3) := by decide +kernel
theorem dX4_goesOut_12 : decode cX4_goesOut 12 = .ok (.iload_n 1, 1) := by decide +kernel
theorem dX4_goesOut_13 : decode cX4_goesOut 13 = .ok (.aload_n 0, 1) := by decide +kernel
theorem dX4_goesOut_14 : decode cX4_goesOut 14 = .ok (.iload_n 2, 1) := by decide +kernel
theorem dX4_goesOut_15 : decode cX4_goesOut 15 = .ok (.invokevirtual 37, 3) := by decide +kernel
theorem dX4_goesOut_18 : decode cX4_goesOut 18 = .ok (.if_icmp .ne 7, 3) := by decide +kernel
theorem dX4_goesOut_21 : decode cX4_goesOut 21 = .ok (.iconst 1, 1) := by decide +kernel
theorem dX4_goesOut_22 : decode cX4_goesOut 22 = .ok (.goto 4, 3) := by decide +kernel
theorem dX4_goesOut_25 : decode cX4_goesOut 25 = .ok (.iconst 0, 1) := by decide +kernel
theorem dX4_goesOut_26 : decode cX4_goesOut 26 = .ok (.ireturn, 1) := by decide +kernel
set_option maxRecDepth 20000 in
theorem ggX4_seifertOut_X4_isUpper : GoodIn wsX4_seifertOut wsX4_isUpper := goodIn_r _ [4] (by decide +kernel) (by decide +kernel)
set_option maxRecDepth 20000 in
theorem gX4_seifertOut_X4_isUpper : GoodIn wsX4_seifertOut (va_wsS RX4 40 yX4_isUpper wsX4_isUpper) := goodIn_app (goodIn_of _ (by decide +kernel)) ggX4_seifertOut_X4_isUpper
set_option maxRecDepth 20000 in
theorem ggX4_seifertOut_X4_lowerOut : GoodIn wsX4_seifertOut wsX4_lowerOut := goodIn_r _ [7] (by decide +kernel) (by decide +kernel)
set_option maxRecDepth 20000 in
theorem gX4_seifertOut_X4_lowerOut : GoodIn wsX4_seifertOut (va_wsS RX4 34 yX4_lowerOut wsX4_lowerOut) := goodIn_app (goodIn_of _ (by decide +kernel)) ggX4_seifertOut_X4_lowerOut
set_option maxRecDepth 20000 in
theorem ggX4_seifertOut_X4_upperOut : GoodIn wsX4_seifertOut wsX4_upperOut := goodIn_r _ [11, 12, 13, 14, 3, 15, 16, 17, 18, 19, 20, 21, 22, 23, 24] (by decide +kernel) (by decide +kernel)
set_option maxRecDepth 20000 in
theorem gX4_seifertOut_X4_upperOut : GoodIn wsX4_seifertOut (wsV RX4 37 RX4 yX4_upperOut wsX4_upperOut) := goodIn_app (goodIn_of _ (by decide +kernel)) ggX4_seifertOut_X4_upperOut
theorem dX4_seifertOut_0 : decode cX4_seifertOut 0 = .ok (.iload_n 1, 1) := by decide +kernel
theorem dX4_seifertOut_1 : decode cX4_seifertOut 1 = .ok (.iconst 4, 1) := by decide +kernel
theorem dX4_seifertOut_2 : decode cX4_seifertOut 2 = .ok (.idiv, 1) := by decide +kernel
theorem dX4_seifertOut_3 : decode cX4_seifertOut 3 = .ok (.istore_n 2, 1) := by decide +kernel
theorem dX4_seifertOut_4 : decode cX4_seifertOut 4 = .ok (.iload_n 1, 1) := by decide +kernel
theorem dX4_seifertOut_5 : decode cX4_seifertOut 5 = .ok (.invokestatic 40, 3) := by decide +kernel
theorem dX4_seifertOut_8 : decode cX4_seifertOut 8 = .ok (.ifCond .eq 10, 3) := by decide +kernel
theorem dX4_seifertOut_11 : decode cX4_seifertOut 11 = .ok (.iload_n 2, 1) := by decide +kernel
theorem dX4_seifertOut_12 : decode cX4_seifertOut 12 = .ok (.invokestatic 34, 3) := by decide +kernel
theorem dX4_seifertOut_15 : decode cX4_seifertOut 15 = .ok (.goto 8, 3) := by decide +kernel
theorem dX4_seifertOut_18 : decode cX4_seifertOut 18 = .ok (.aload_n 0, 1) := by decide +kernel
theorem dX4_seifertOut_19 : decode cX4_seifertOut 19 = .ok (.iload_n 2, 1) := by decide +kernel
theorem dX4_seifertOut_20 : decode cX4_seifertOut 20 = .ok (.invokevirtual 37, 3) := by decide +kernel
theorem dX4_seifertOut_23 : decode cX4_seifertOut 23 = .ok (.ireturn, 1) := by decide +kernel
theorem dX4_sumOfSigns_0 : decode cX4_sumOfSigns 0 = .ok (.iconst 0, 1) := by decide +kernel
theorem dX4_sumOfSigns_1 : decode cX4_sumOfSigns 1 = .ok (.istore_n 1, 1) := by decide +kernel
theorem dX4_sumOfSigns_2 : decode cX4_sumOfSigns 2 = .ok (.iconst 0, 1) := by decide +kernel
theorem dX4_sumOfSigns_3 : decode cX4_sumOfSigns 3 = .ok (.istore_n 2, 1) := by decide +kernel
theorem dX4_sumOfSigns_4 : decode cX4_sumOfSigns 4 = .ok (.iload_n 2, 1) := by decide +kernel
theorem dX4_sumOfSigns_5 : decode cX4_sumOfSigns 5 = .ok (.aload_n 0, 1) := by decide +kernel
theorem dX4_sumOfSigns_6 : decode cX4_sumOfSigns 6 = .ok (.getfield 18, 3) := by decide +kernel
theorem dX4_sumOfSigns_9 : decode cX4_sumOfSigns 9 = .ok (.if_icmp .ge 18, 3) := by decide +kernel
theorem dX4_sumOfSigns_12 : decode cX4_sumOfSigns 12 = .ok (.iload_n 1, 1) := by decide +kernel
theorem dX4_sumOfSigns_13 : decode cX4_sumOfSigns 13 = .ok (.aload_n 0, 1) := by decide +kernel
theorem dX4_sumOfSigns_14 : decode cX4_sumOfSigns 14 = .ok (.getfield 9, 3) := by decide +kernel
theorem dX4_sumOfSigns_17 : decode cX4_sumOfSigns 17 = .ok (.iload_n 2, 1) := by decide +kernel
theorem dX4_sumOfSigns_18 : decode cX4_sumOfSigns 18 = .ok (.iaload, 1) := by decide +kernel
theorem dX4_sumOfSigns_19 : decode cX4_sumOfSigns 19 = .ok (.iadd, 1) := by decide +kernel
theorem dX4_sumOfSigns_20 : decode cX4_sumOfSigns 20 = .ok (.istore_n 1, 1) := by decide +kernel
theorem dX4_sumOfSigns_21 : decode cX4_sumOfSigns 21 = .ok (.iinc 2 1, 3) := by decide +kernel
theorem dX4_sumOfSigns_24 : decode cX4_sumOfSigns 24 = .ok (.goto (-20), 3) := by decide +kernel
theorem dX4_sumOfSigns_27 : decode cX4_sumOfSigns 27 = .ok (.iload_n 1, 1) := by decide +kernel
theorem dX4_sumOfSigns_28 : decode cX4_sumOfSigns 28 = .ok (.ireturn, 1) := by decide +kernel
set_option maxRecDepth 20000 in
theorem ggX4_exchangeStrands_X4_upperIn : GoodIn wsX4_exchangeStrands wsX4_upperIn := goodIn_r _ [5, 6, 7, 8, 4, 9, 10, 11, 12, 13, 14, 15, 25, 26, 27] (by decide +kernel) (by decide +kernel)
set_option maxRecDepth 20000 in
theorem gX4_exchangeStrands_X4_upperIn : GoodIn wsX4_exchangeStrands (wsV RX4 43 RX4 yX4_upperIn wsX4_upperIn) := goodIn_app (goodIn_of _ (by decide +kernel)) ggX4_exchangeStrands_X4_upperIn
set_option maxRecDepth 20000 in
theorem ggX4_exchangeStrands_X4_beginPlacesAt : GoodIn wsX4_exchangeStrands wsX4_beginPlacesAt := goodIn_r _ [19, 20, 11, 12, 13, 4, 14, 15, 25, 26, 27] (by decide +kernel) (by decide +kernel)
set_option maxRecDepth 20000 in
theorem gX4_exchangeStrands_X4_beginPlacesAt : GoodIn wsX4_exchangeStrands (wsV RX4 46 RX4 yX4_beginPlacesAt wsX4_beginPlacesAt) := goodIn_app (goodIn_of _ (by decide +kernel)) ggX4_exchangeStrands_X4_beginPlacesAt
set_option maxRecDepth 20000 in
theorem ggX4_exchangeStrands_X4_flipSign : GoodIn wsX4_exchangeStrands wsX4_flipSign := goodIn_r _ [24, 10, 11, 12, 13, 4, 14, 15, 25, 26, 27] (by decide +kernel) (by decide +kernel)
set_option maxRecDepth 20000 in
theorem gX4_exchangeStrands_X4_flipSign : GoodIn wsX4_exchangeStrands (wsV RX4 50 RX4 yX4_flipSign wsX4_flipSign) := goodIn_app (goodIn_of _ (by decide +kernel)) ggX4_exchangeStrands_X4_flipSign
theorem dX4_exchangeStrands_0 : decode cX4_exchangeStrands 0 = .ok (.aload_n 0, 1) := by decide +kernel
theorem dX4_exchangeStrands_1 : decode cX4_exchangeStrands 1 = .ok (.iload_n 1, 1) := by decide +kernel
theorem dX4_exchangeStrands_2 : decode cX4_exchangeStrands 2 = .ok (.aload_n 0, 1) := by decide +kernel
theorem dX4_exchangeStrands_3 : decode cX4_exchangeStrands 3 = .ok (.iload_n 1, 1) := by decide +kernel
theorem dX4_exchangeStrands_4 : decode cX4_exchangeStrands 4 = .ok (.invokevirtual 43, 3) := by decide +kernel
theorem dX4_exchangeStrands_7 : decode cX4_exchangeStrands 7 = .ok (.iconst 4, 1) := by decide +kernel
theorem dX4_exchangeStrands_8 : decode cX4_exchangeStrands 8 = .ok (.irem, 1) := by decide +kernel
theorem dX4_exchangeStrands_9 : decode cX4_exchangeStrands 9 = .ok (.invokevirtual 46, 3) := by decide +kernel
theorem dX4_exchangeStrands_12 : decode cX4_exchangeStrands 12 = .ok (.aload_n 0, 1) := by decide +kernel
theorem dX4_exchangeStrands_13 : decode cX4_exchangeStrands 13 = .ok (.iload_n 1, 1) := by decide +kernel
theorem dX4_exchangeStrands_14 : decode cX4_exchangeStrands 14 = .ok (.invokevirtual 50, 3) := by decide +kernel
theorem dX4_exchangeStrands_17 : decode cX4_exchangeStrands 17 = .ok (.return_, 1) := by decide +kernel
set_option maxRecDepth 20000 in
theorem ggX4_exchangeAllStrands_X4_exchangeStrands : GoodIn wsX4_exchangeAllStrands wsX4_exchangeStrands := goodIn_r _ [6, 7, 8, 9, 5, 10, 11, 12, 13, 14, 15, 16, 17, 18, 19, 1, 20, 21, 22, 23, 24, 25, 26, 27, 28, 29, 30, 31] (by decide +kernel) (by decide +kernel)
