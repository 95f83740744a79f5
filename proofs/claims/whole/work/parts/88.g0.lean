set_option maxRecDepth 20000 in
theorem ggL_law_X5_init : GoodIn wsL_law wsX5_init := goodIn_r _ [8, 9, 10, 11, 12, 13, 14, 15, 16, 17, 18, 19, 20, 21, 22, 23, 24, 25, 26, 27, 28, 29, 30, 31, 32, 33, 34, 35, 36, 37, 38, 39, 40, 41, 42, 43, 44, 45, 46, 47, 48, 49, 50, 51, 52, 53, 54, 55, 56, 57, 58, 59, 60, 61, 62, 63, 64, 65, 66, 67, 68, 69, 70, 71, 72, 73, 74, 740, 741, 742, 743, 744, 745, 746, 747, 748, 713, 714, 715, 716, 749, 750, 751, 752, 753, 754, 755, 756, 757, 758, 759, 760, 761, 762, 763, 764, 765, 766, 767] (by decide +kernel) (by decide +kernel)
set_option maxRecDepth 20000 in
theorem gL_law_X5_init : GoodIn wsL_law (wsX5_init) := ggL_law_X5_init
set_option maxRecDepth 20000 in
theorem ggL_law_X6_init : GoodIn wsL_law wsX6_init := goodIn_r _ [77, 78, 10, 11, 79, 41, 80, 81, 82, 83, 84, 85, 86, 87, 88, 89, 90, 91, 92, 93, 717, 718, 719, 720, 721, 722, 723, 724, 725, 726, 727, 728, 729, 730, 731, 732, 733, 734, 735, 736, 737, 738, 739] (by decide +kernel) (by decide +kernel)
set_option maxRecDepth 20000 in
theorem gL_law_X6_init : GoodIn wsL_law (wsX6_init) := ggL_law_X6_init
set_option maxRecDepth 20000 in
theorem ggL_law_X5_crossing : GoodIn wsL_law wsX5_crossing := goodIn_r _ [97, 15, 98, 99, 100, 2, 101, 102, 103, 104, 24, 105, 49, 47, 48, 106, 107, 108, 109, 713, 714, 715, 716, 740, 741, 742, 743, 744, 745, 746, 747, 748, 749, 750, 751] (by decide +kernel) (by decide +kernel)
set_option maxRecDepth 20000 in
theorem gL_law_X5_crossing : GoodIn wsL_law (wsV RL 13 RX5 yX5_crossing wsX5_crossing) := goodIn_app (goodIn_of _ (by decide +kernel)) ggL_law_X5_crossing
set_option maxRecDepth 20000 in
theorem ggL_law_X6_crossing : GoodIn wsL_law wsX6_crossing := goodIn_r _ [113, 114, 80, 81, 717, 718, 719, 720, 721, 722, 723, 724, 725, 726, 727, 728, 729, 730, 731, 732, 733, 734, 735, 736, 737, 738, 739] (by decide +kernel) (by decide +kernel)
set_option maxRecDepth 20000 in
theorem gL_law_X6_crossing : GoodIn wsL_law (wsV RL 17 RX6 yX6_crossing wsX6_crossing) := goodIn_app (goodIn_of _ (by decide +kernel)) ggL_law_X6_crossing
