set_option maxRecDepth 20000 in
theorem ggL_law_X5_many : GoodIn wsL_law wsX5_many := goodIn_r _ [400, 16, 98, 401, 402, 17, 403, 404, 405, 406, 15, 106, 107, 108, 24, 109, 49, 407, 197, 198, 28, 199, 58, 408, 280, 281, 37, 282, 74, 409, 410, 411, 32, 412, 65, 413, 414, 415, 416, 47, 417, 418, 419, 420, 55, 56, 421, 308, 309, 713, 714, 715, 716, 740, 741, 742, 743, 744, 745, 746, 747, 748, 749, 750, 751, 752, 753, 754, 755, 756, 757, 762, 763, 764, 765, 766, 767, 758, 759, 760, 761] (by decide +kernel) (by decide +kernel)
set_option maxRecDepth 20000 in
theorem gL_law_X5_many : GoodIn wsL_law (wsV RL 28 RX5 yX5_many wsX5_many) := goodIn_app (goodIn_of _ (by decide +kernel)) ggL_law_X5_many
set_option maxRecDepth 20000 in
theorem ggL_law_X6_many : GoodIn wsL_law wsX6_many := goodIn_r _ [425, 336, 331, 114, 426, 427, 428, 5, 429, 430, 431, 432, 433, 434, 92, 347, 86, 348, 349, 350, 351, 83, 352, 353, 354, 355, 356, 357, 358, 359, 82, 435, 436, 437, 438, 439, 440, 441, 442, 443, 444, 445, 91, 364, 365, 366, 367, 446, 447, 448, 449, 450, 451, 452, 453, 372, 368, 369, 370, 371, 93, 373, 374, 375, 376, 377, 378, 379, 380, 454, 455, 456, 457, 458, 459, 460, 461, 462, 463, 464, 465, 466, 467, 468, 469, 470, 471, 472, 473, 474, 475, 476, 477, 478, 479, 480, 717, 718, 719, 720, 721, 722, 723, 724, 725, 726, 727, 728, 729, 730, 731, 732, 733, 734, 735, 736, 737, 738, 739] (by decide +kernel) (by decide +kernel)
set_option maxRecDepth 20000 in
theorem gL_law_X6_many : GoodIn wsL_law (wsV RL 31 RX6 yX6_many wsX6_many) := goodIn_app (goodIn_of _ (by decide +kernel)) ggL_law_X6_many
set_option maxRecDepth 20000 in
theorem ggL_law_X5_look : GoodIn wsL_law wsX5_look := goodIn_r _ [484, 16, 98, 403, 485, 176, 177, 24, 178, 49, 486, 132, 133, 134, 48, 135, 128, 129, 130, 487, 172, 173, 174, 47, 175, 488, 228, 229, 32, 230, 63, 219, 220, 221, 222, 64, 489, 490, 491, 14, 492, 38, 29, 493, 494, 495, 302, 248, 249, 28, 250, 57, 496, 497, 498, 37, 499, 70, 256, 257, 258, 259, 73, 500, 501, 502, 503, 25, 504, 505, 506, 507, 171, 713, 714, 715, 716, 740, 741, 742, 743, 744, 745, 746, 747, 748, 749, 750, 751, 758, 759, 760, 761, 752, 753, 754, 755, 756, 757, 762, 763, 764, 765, 766, 767] (by decide +kernel) (by decide +kernel)
set_option maxRecDepth 20000 in
theorem gL_law_X5_look : GoodIn wsL_law (wsV RL 32 RX5 yX5_look wsX5_look) := goodIn_app (goodIn_of _ (by decide +kernel)) ggL_law_X5_look
set_option maxRecDepth 20000 in
theorem ggL_law_X6_look : GoodIn wsL_law wsX6_look := goodIn_r _ [511, 336, 83, 82, 512, 513, 514, 5, 515, 91, 364, 365, 366, 367, 516, 517, 518, 519, 92, 431, 432, 433, 434, 430, 347, 86, 348, 349, 350, 351, 352, 353, 354, 355, 356, 357, 358, 359, 435, 436, 437, 438, 439, 440, 441, 717, 718, 719, 720, 721, 722, 723, 724, 725, 726, 727, 728, 729, 730, 731, 732, 733, 734, 735, 736, 737, 738, 739] (by decide +kernel) (by decide +kernel)
set_option maxRecDepth 20000 in
theorem gL_law_X6_look : GoodIn wsL_law (wsV RL 36 RX6 yX6_look wsX6_look) := goodIn_app (goodIn_of _ (by decide +kernel)) ggL_law_X6_look
