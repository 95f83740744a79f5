theorem dX6_crossing_76 : decode cX6_crossing 76 = .ok (.if_icmp .ne 5, 3) := by decide +kernel
theorem dX6_crossing_79 : decode cX6_crossing 79 = .ok (.iconst (-1), 1) := by decide +kernel
theorem dX6_crossing_80 : decode cX6_crossing 80 = .ok (.ireturn, 1) := by decide +kernel
theorem dX6_crossing_81 : decode cX6_crossing 81 = .ok (.aload_n 0, 1) := by decide +kernel
theorem dX6_crossing_82 : decode cX6_crossing 82 = .ok (.getfield 13, 3) := by decide +kernel
theorem dX6_crossing_85 : decode cX6_crossing 85 = .ok (.aload_n 0, 1) := by decide +kernel
theorem dX6_crossing_86 : decode cX6_crossing 86 = .ok (.getfield 99, 3) := by decide +kernel
theorem dX6_crossing_89 : decode cX6_crossing 89 = .ok (.iload_n 1, 1) := by decide +kernel
theorem dX6_crossing_90 : decode cX6_crossing 90 = .ok (.iastore, 1) := by decide +kernel
theorem dX6_crossing_91 : decode cX6_crossing 91 = .ok (.aload_n 0, 1) := by decide +kernel
theorem dX6_crossing_92 : decode cX6_crossing 92 = .ok (.getfield 17, 3) := by decide +kernel
theorem dX6_crossing_95 : decode cX6_crossing 95 = .ok (.iconst 4, 1) := by decide +kernel
theorem dX6_crossing_96 : decode cX6_crossing 96 = .ok (.aload_n 0, 1) := by decide +kernel
theorem dX6_crossing_97 : decode cX6_crossing 97 = .ok (.getfield 99, 3) := by decide +kernel
theorem dX6_crossing_100 : decode cX6_crossing 100 = .ok (.imul, 1) := by decide +kernel
theorem dX6_crossing_101 : decode cX6_crossing 101 = .ok (.iload_n 2, 1) := by decide +kernel
theorem dX6_crossing_102 : decode cX6_crossing 102 = .ok (.iastore, 1) := by decide +kernel
theorem dX6_crossing_103 : decode cX6_crossing 103 = .ok (.aload_n 0, 1) := by decide +kernel
theorem dX6_crossing_104 : decode cX6_crossing 104 = .ok (.getfield 17, 3) := by decide +kernel
theorem dX6_crossing_107 : decode cX6_crossing 107 = .ok (.iconst 4, 1) := by decide +kernel
theorem dX6_crossing_108 : decode cX6_crossing 108 = .ok (.aload_n 0, 1) := by decide +kernel
theorem dX6_crossing_109 : decode cX6_crossing 109 = .ok (.getfield 99, 3) := by decide +kernel
theorem dX6_crossing_112 : decode cX6_crossing 112 = .ok (.imul, 1) := by decide +kernel
theorem dX6_crossing_113 : decode cX6_crossing 113 = .ok (.iconst 1, 1) := by decide +kernel
theorem dX6_crossing_114 : decode cX6_crossing 114 = .ok (.iadd, 1) := by decide +kernel
theorem dX6_crossing_115 : decode cX6_crossing 115 = .ok (.iload_n 3, 1) := by decide +kernel
theorem dX6_crossing_116 : decode cX6_crossing 116 = .ok (.iastore, 1) := by decide +kernel
theorem dX6_crossing_117 : decode cX6_crossing 117 = .ok (.aload_n 0, 1) := by decide +kernel
theorem dX6_crossing_118 : decode cX6_crossing 118 = .ok (.getfield 17, 3) := by decide +kernel
theorem dX6_crossing_121 : decode cX6_crossing 121 = .ok (.iconst 4, 1) := by decide +kernel
theorem dX6_crossing_122 : decode cX6_crossing 122 = .ok (.aload_n 0, 1) := by decide +kernel
theorem dX6_crossing_123 : decode cX6_crossing 123 = .ok (.getfield 99, 3) := by decide +kernel
theorem dX6_crossing_126 : decode cX6_crossing 126 = .ok (.imul, 1) := by decide +kernel
theorem dX6_crossing_127 : decode cX6_crossing 127 = .ok (.iconst 2, 1) := by decide +kernel
theorem dX6_crossing_128 : decode cX6_crossing 128 = .ok (.iadd, 1) := by decide +kernel
theorem dX6_crossing_129 : decode cX6_crossing 129 = .ok (.iload 4, 2) := by decide +kernel
theorem dX6_crossing_131 : decode cX6_crossing 131 = .ok (.iastore, 1) := by decide +kernel
theorem dX6_crossing_132 : decode cX6_crossing 132 = .ok (.aload_n 0, 1) := by decide +kernel
theorem dX6_crossing_133 : decode cX6_crossing 133 = .ok (.getfield 17, 3) := by decide +kernel
theorem dX6_crossing_136 : decode cX6_crossing 136 = .ok (.iconst 4, 1) := by decide +kernel
theorem dX6_crossing_137 : decode cX6_crossing 137 = .ok (.aload_n 0, 1) := by decide +kernel
theorem dX6_crossing_138 : decode cX6_crossing 138 = .ok (.getfield 99, 3) := by decide +kernel
theorem dX6_crossing_141 : decode cX6_crossing 141 = .ok (.imul, 1) := by decide +kernel
theorem dX6_crossing_142 : decode cX6_crossing 142 = .ok (.iconst 3, 1) := by decide +kernel
theorem dX6_crossing_143 : decode cX6_crossing 143 = .ok (.iadd, 1) := by decide +kernel
theorem dX6_crossing_144 : decode cX6_crossing 144 = .ok (.iload 5, 2) := by decide +kernel
theorem dX6_crossing_146 : decode cX6_crossing 146 = .ok (.iastore, 1) := by decide +kernel
theorem dX6_crossing_147 : decode cX6_crossing 147 = .ok (.aload_n 0, 1) := by decide +kernel
theorem dX6_crossing_148 : decode cX6_crossing 148 = .ok (.dup, 1) := by decide +kernel
theorem dX6_crossing_149 : decode cX6_crossing 149 = .ok (.getfield 99, 3) := by decide +kernel
theorem dX6_crossing_152 : decode cX6_crossing 152 = .ok (.iconst 1, 1) := by decide +kernel
theorem dX6_crossing_153 : decode cX6_crossing 153 = .ok (.iadd, 1) := by decide +kernel
theorem dX6_crossing_154 : decode cX6_crossing 154 = .ok (.putfield 99, 3) := by decide +kernel
theorem dX6_crossing_157 : decode cX6_crossing 157 = .ok (.aload_n 0, 1) := by decide +kernel
theorem dX6_crossing_158 : decode cX6_crossing 158 = .ok (.getfield 99, 3) := by decide +kernel
theorem dX6_crossing_161 : decode cX6_crossing 161 = .ok (.ireturn, 1) := by decide +kernel
theorem dX6_take_0 : decode cX6_take 0 = .ok (.aload_n 0, 1) := by decide +kernel
theorem dX6_take_1 : decode cX6_take 1 = .ok (.aload_n 0, 1) := by decide +kernel
theorem dX6_take_2 : decode cX6_take 2 = .ok (.getfield 57, 3) := by decide +kernel
theorem dX6_take_5 : decode cX6_take 5 = .ok (.putfield 102, 3) := by decide +kernel
theorem dX6_take_8 : decode cX6_take 8 = .ok (.aload_n 0, 1) := by decide +kernel
theorem dX6_take_9 : decode cX6_take 9 = .ok (.aload_n 0, 1) := by decide +kernel
theorem dX6_take_10 : decode cX6_take 10 = .ok (.getfield 105, 3) := by decide +kernel
theorem dX6_take_13 : decode cX6_take 13 = .ok (.putfield 108, 3) := by decide +kernel
theorem dX6_take_16 : decode cX6_take 16 = .ok (.iconst 0, 1) := by decide +kernel
theorem dX6_take_17 : decode cX6_take 17 = .ok (.istore_n 1, 1) := by decide +kernel
theorem dX6_take_18 : decode cX6_take 18 = .ok (.iload_n 1, 1) := by decide +kernel
theorem dX6_take_19 : decode cX6_take 19 = .ok (.bipush 20, 2) := by decide +kernel
theorem dX6_take_21 : decode cX6_take 21 = .ok (.if_icmp .ge 21, 3) := by decide +kernel
theorem dX6_take_24 : decode cX6_take 24 = .ok (.aload_n 0, 1) := by decide +kernel
theorem dX6_take_25 : decode cX6_take 25 = .ok (.getfield 26, 3) := by decide +kernel
theorem dX6_take_28 : decode cX6_take 28 = .ok (.iload_n 1, 1) := by decide +kernel
theorem dX6_take_29 : decode cX6_take 29 = .ok (.aload_n 0, 1) := by decide +kernel
theorem dX6_take_30 : decode cX6_take 30 = .ok (.getfield 20, 3) := by decide +kernel
theorem dX6_take_33 : decode cX6_take 33 = .ok (.iload_n 1, 1) := by decide +kernel
theorem dX6_take_34 : decode cX6_take 34 = .ok (.iaload, 1) := by decide +kernel
theorem dX6_take_35 : decode cX6_take 35 = .ok (.iastore, 1) := by decide +kernel
theorem dX6_take_36 : decode cX6_take 36 = .ok (.iinc 1 1, 3) := by decide +kernel
theorem dX6_take_39 : decode cX6_take 39 = .ok (.goto (-21), 3) := by decide +kernel
theorem dX6_take_42 : decode cX6_take 42 = .ok (.iconst 0, 1) := by decide +kernel
theorem dX6_take_43 : decode cX6_take 43 = .ok (.istore_n 1, 1) := by decide +kernel
theorem dX6_take_44 : decode cX6_take 44 = .ok (.iload_n 1, 1) := by decide +kernel
theorem dX6_take_45 : decode cX6_take 45 = .ok (.bipush 80, 2) := by decide +kernel
theorem dX6_take_47 : decode cX6_take 47 = .ok (.if_icmp .ge 21, 3) := by decide +kernel
theorem dX6_take_50 : decode cX6_take 50 = .ok (.aload_n 0, 1) := by decide +kernel
theorem dX6_take_51 : decode cX6_take 51 = .ok (.getfield 29, 3) := by decide +kernel
theorem dX6_take_54 : decode cX6_take 54 = .ok (.iload_n 1, 1) := by decide +kernel
theorem dX6_take_55 : decode cX6_take 55 = .ok (.aload_n 0, 1) := by decide +kernel
theorem dX6_take_56 : decode cX6_take 56 = .ok (.getfield 23, 3) := by decide +kernel
theorem dX6_take_59 : decode cX6_take 59 = .ok (.iload_n 1, 1) := by decide +kernel
theorem dX6_take_60 : decode cX6_take 60 = .ok (.iaload, 1) := by decide +kernel
theorem dX6_take_61 : decode cX6_take 61 = .ok (.iastore, 1) := by decide +kernel
theorem dX6_take_62 : decode cX6_take 62 = .ok (.iinc 1 1, 3) := by decide +kernel
theorem dX6_take_65 : decode cX6_take 65 = .ok (.goto (-21), 3) := by decide +kernel
theorem dX6_take_68 : decode cX6_take 68 = .ok (.aload_n 0, 1) := by decide +kernel
theorem dX6_take_69 : decode cX6_take 69 = .ok (.aload_n 0, 1) := by decide +kernel
theorem dX6_take_70 : decode cX6_take 70 = .ok (.getfield 99, 3) := by decide +kernel
theorem dX6_take_73 : decode cX6_take 73 = .ok (.putfield 57, 3) := by decide +kernel
theorem dX6_take_76 : decode cX6_take 76 = .ok (.iconst 0, 1) := by decide +kernel
theorem dX6_take_77 : decode cX6_take 77 = .ok (.istore_n 1, 1) := by decide +kernel
theorem dX6_take_78 : decode cX6_take 78 = .ok (.iload_n 1, 1) := by decide +kernel
theorem dX6_take_79 : decode cX6_take 79 = .ok (.aload_n 0, 1) := by decide +kernel
theorem dX6_take_80 : decode cX6_take 80 = .ok (.getfield 57, 3) := by decide +kernel
theorem dX6_take_83 : decode cX6_take 83 = .ok (.if_icmp .ge 21, 3) := by decide +kernel
theorem dX6_take_86 : decode cX6_take 86 = .ok (.aload_n 0, 1) := by decide +kernel
theorem dX6_take_87 : decode cX6_take 87 = .ok (.getfield 20, 3) := by decide +kernel
theorem dX6_take_90 : decode cX6_take 90 = .ok (.iload_n 1, 1) := by decide +kernel
theorem dX6_take_91 : decode cX6_take 91 = .ok (.aload_n 0, 1) := by decide +kernel
theorem dX6_take_92 : decode cX6_take 92 = .ok (.getfield 13, 3) := by decide +kernel
theorem dX6_take_95 : decode cX6_take 95 = .ok (.iload_n 1, 1) := by decide +kernel
theorem dX6_take_96 : decode cX6_take 96 = .ok (.iaload, 1) := by decide +kernel
theorem dX6_take_97 : decode cX6_take 97 = .ok (.iastore, 1) := by decide +kernel
theorem dX6_take_98 : decode cX6_take 98 = .ok (.iinc 1 1, 3) := by decide +kernel
theorem dX6_take_101 : decode cX6_take 101 = .ok (.goto (-23), 3) := by decide +kernel
theorem dX6_take_104 : decode cX6_take 104 = .ok (.iconst 0, 1) := by decide +kernel
theorem dX6_take_105 : decode cX6_take 105 = .ok (.istore_n 1, 1) := by decide +kernel
theorem dX6_take_106 : decode cX6_take 106 = .ok (.iload_n 1, 1) := by decide +kernel
theorem dX6_take_107 : decode cX6_take 107 = .ok (.iconst 4, 1) := by decide +kernel
theorem dX6_take_108 : decode cX6_take 108 = .ok (.aload_n 0, 1) := by decide +kernel
theorem dX6_take_109 : decode cX6_take 109 = .ok (.getfield 57, 3) := by decide +kernel
theorem dX6_take_112 : decode cX6_take 112 = .ok (.imul, 1) := by decide +kernel
theorem dX6_take_113 : decode cX6_take 113 = .ok (.if_icmp .ge 21, 3) := by decide +kernel
theorem dX6_take_116 : decode cX6_take 116 = .ok (.aload_n 0, 1) := by decide +kernel
theorem dX6_take_117 : decode cX6_take 117 = .ok (.getfield 23, 3) := by decide +kernel
theorem dX6_take_120 : decode cX6_take 120 = .ok (.iload_n 1, 1) := by decide +kernel
theorem dX6_take_121 : decode cX6_take 121 = .ok (.aload_n 0, 1) := by decide +kernel
theorem dX6_take_122 : decode cX6_take 122 = .ok (.getfield 17, 3) := by decide +kernel
theorem dX6_take_125 : decode cX6_take 125 = .ok (.iload_n 1, 1) := by decide +kernel
theorem dX6_take_126 : decode cX6_take 126 = .ok (.iaload, 1) := by decide +kernel
theorem dX6_take_127 : decode cX6_take 127 = .ok (.iastore, 1) := by decide +kernel
theorem dX6_take_128 : decode cX6_take 128 = .ok (.iinc 1 1, 3) := by decide +kernel
theorem dX6_take_131 : decode cX6_take 131 = .ok (.goto (-25), 3) := by decide +kernel
theorem dX6_take_134 : decode cX6_take 134 = .ok (.aload_n 0, 1) := by decide +kernel
theorem dX6_take_135 : decode cX6_take 135 = .ok (.iconst 0, 1) := by decide +kernel
theorem dX6_take_136 : decode cX6_take 136 = .ok (.putfield 99, 3) := by decide +kernel
theorem dX6_take_139 : decode cX6_take 139 = .ok (.return_, 1) := by decide +kernel
theorem dX6_back_0 : decode cX6_back 0 = .ok (.aload_n 0, 1) := by decide +kernel
theorem dX6_back_1 : decode cX6_back 1 = .ok (.aload_n 0, 1) := by decide +kernel
theorem dX6_back_2 : decode cX6_back 2 = .ok (.getfield 102, 3) := by decide +kernel
theorem dX6_back_5 : decode cX6_back 5 = .ok (.putfield 57, 3) := by decide +kernel
theorem dX6_back_8 : decode cX6_back 8 = .ok (.aload_n 0, 1) := by decide +kernel
theorem dX6_back_9 : decode cX6_back 9 = .ok (.aload_n 0, 1) := by decide +kernel
theorem dX6_back_10 : decode cX6_back 10 = .ok (.getfield 108, 3) := by decide +kernel
theorem dX6_back_13 : decode cX6_back 13 = .ok (.putfield 105, 3) := by decide +kernel
theorem dX6_back_16 : decode cX6_back 16 = .ok (.iconst 0, 1) := by decide +kernel
theorem dX6_back_17 : decode cX6_back 17 = .ok (.istore_n 1, 1) := by decide +kernel
theorem dX6_back_18 : decode cX6_back 18 = .ok (.iload_n 1, 1) := by decide +kernel
theorem dX6_back_19 : decode cX6_back 19 = .ok (.bipush 20, 2) := by decide +kernel
theorem dX6_back_21 : decode cX6_back 21 = .ok (.if_icmp .ge 21, 3) := by decide +kernel
theorem dX6_back_24 : decode cX6_back 24 = .ok (.aload_n 0, 1) := by decide +kernel
theorem dX6_back_25 : decode cX6_back 25 = .ok (.getfield 20, 3) := by decide +kernel
theorem dX6_back_28 : decode cX6_back 28 = .ok (.iload_n 1, 1) := by decide +kernel
theorem dX6_back_29 : decode cX6_back 29 = .ok (.aload_n 0, 1) := by decide +kernel
theorem dX6_back_30 : decode cX6_back 30 = .ok (.getfield 26, 3) := by decide +kernel
theorem dX6_back_33 : decode cX6_back 33 = .ok (.iload_n 1, 1) := by decide +kernel
theorem dX6_back_34 : decode cX6_back 34 = .ok (.iaload, 1) := by decide +kernel
theorem dX6_back_35 : decode cX6_back 35 = .ok (.iastore, 1) := by decide +kernel
theorem dX6_back_36 : decode cX6_back 36 = .ok (.iinc 1 1, 3) := by decide +kernel
theorem dX6_back_39 : decode cX6_back 39 = .ok (.goto (-21), 3) := by decide +kernel
theorem dX6_back_42 : decode cX6_back 42 = .ok (.iconst 0, 1) := by decide +kernel
theorem dX6_back_43 : decode cX6_back 43 = .ok (.istore_n 1, 1) := by decide +kernel
theorem dX6_back_44 : decode cX6_back 44 = .ok (.iload_n 1, 1) := by decide +kernel
theorem dX6_back_45 : decode cX6_back 45 = .ok (.bipush 80, 2) := by decide +kernel
theorem dX6_back_47 : decode cX6_back 47 = .ok (.if_icmp .ge 21, 3) := by decide +kernel
theorem dX6_back_50 : decode cX6_back 50 = .ok (.aload_n 0, 1) := by decide +kernel
theorem dX6_back_51 : decode cX6_back 51 = .ok (.getfield 23, 3) := by decide +kernel
theorem dX6_back_54 : decode cX6_back 54 = .ok (.iload_n 1, 1) := by decide +kernel
theorem dX6_back_55 : decode cX6_back 55 = .ok (.aload_n 0, 1) := by decide +kernel
theorem dX6_back_56 : decode cX6_back 56 = .ok (.getfield 29, 3) := by decide +kernel
theorem dX6_back_59 : decode cX6_back 59 = .ok (.iload_n 1, 1) := by decide +kernel
theorem dX6_back_60 : decode cX6_back 60 = .ok (.iaload, 1) := by decide +kernel
theorem dX6_back_61 : decode cX6_back 61 = .ok (.iastore, 1) := by decide +kernel
theorem dX6_back_62 : decode cX6_back 62 = .ok (.iinc 1 1, 3) := by decide +kernel
theorem dX6_back_65 : decode cX6_back 65 = .ok (.goto (-21), 3) := by decide +kernel
theorem dX6_back_68 : decode cX6_back 68 = .ok (.return_, 1) := by decide +kernel
set_option maxRecDepth 20000 in
theorem ggX6_badLabel_X6_sort : GoodIn wsX6_badLabel wsX6_sort := goodIn_r _ [9, 1, 2, 4, 3, 19, 20, 21, 22, 23, 24, 25, 26, 27, 28, 29, 30, 31, 32, 33, 34, 35, 36, 37, 38, 39, 40, 41] (by decide +kernel) (by decide +kernel)
set_option maxRecDepth 20000 in
theorem gX6_badLabel_X6_sort : GoodIn wsX6_badLabel (wsV RX6 78 RX6 yX6_sort wsX6_sort) := goodIn_app (goodIn_of _ (by decide +kernel)) ggX6_badLabel_X6_sort
set_option maxRecDepth 20000 in
theorem ggX6_badLabel_X6_placeOf : GoodIn wsX6_badLabel wsX6_placeOf := goodIn_r _ [13, 2, 3, 14, 15, 16, 8, 17, 18, 19, 20, 21, 22, 23, 24, 25, 26, 27, 28, 29, 30, 31, 32, 33, 34, 35, 36, 37, 38, 39, 40, 41] (by decide +kernel) (by decide +kernel)
set_option maxRecDepth 20000 in
theorem gX6_badLabel_X6_placeOf : GoodIn wsX6_badLabel (wsV RX6 64 RX6 yX6_placeOf wsX6_placeOf) := goodIn_app (goodIn_of _ (by decide +kernel)) ggX6_badLabel_X6_placeOf
theorem dX6_badLabel_0 : decode cX6_badLabel 0 = .ok (.aload_n 0, 1) := by decide +kernel
theorem dX6_badLabel_1 : decode cX6_badLabel 1 = .ok (.invokevirtual 78, 3) := by decide +kernel
theorem dX6_badLabel_4 : decode cX6_badLabel 4 = .ok (.iconst 0, 1) := by decide +kernel
theorem dX6_badLabel_5 : decode cX6_badLabel 5 = .ok (.istore_n 2, 1) := by decide +kernel
theorem dX6_badLabel_6 : decode cX6_badLabel 6 = .ok (.iload_n 2, 1) := by decide +kernel
theorem dX6_badLabel_7 : decode cX6_badLabel 7 = .ok (.aload_n 0, 1) := by decide +kernel
theorem dX6_badLabel_8 : decode cX6_badLabel 8 = .ok (.getfield 72, 3) := by decide +kernel
theorem dX6_badLabel_11 : decode cX6_badLabel 11 = .ok (.if_icmp .ge 119, 3) := by decide +kernel
theorem dX6_badLabel_14 : decode cX6_badLabel 14 = .ok (.iconst 0, 1) := by decide +kernel
theorem dX6_badLabel_15 : decode cX6_badLabel 15 = .ok (.istore_n 3, 1) := by decide +kernel
theorem dX6_badLabel_16 : decode cX6_badLabel 16 = .ok (.iconst 0, 1) := by decide +kernel
theorem dX6_badLabel_17 : decode cX6_badLabel 17 = .ok (.istore 4, 2) := by decide +kernel
theorem dX6_badLabel_19 : decode cX6_badLabel 19 = .ok (.iload 4, 2) := by decide +kernel
theorem dX6_badLabel_21 : decode cX6_badLabel 21 = .ok (.iconst 4, 1) := by decide +kernel
theorem dX6_badLabel_22 : decode cX6_badLabel 22 = .ok (.aload_n 0, 1) := by decide +kernel
theorem dX6_badLabel_23 : decode cX6_badLabel 23 = .ok (.getfield 57, 3) := by decide +kernel
theorem dX6_badLabel_26 : decode cX6_badLabel 26 = .ok (.imul, 1) := by decide +kernel
theorem dX6_badLabel_27 : decode cX6_badLabel 27 = .ok (.if_icmp .ge 33, 3) := by decide +kernel
theorem dX6_badLabel_30 : decode cX6_badLabel 30 = .ok (.iload_n 3, 1) := by decide +kernel
theorem dX6_badLabel_31 : decode cX6_badLabel 31 = .ok (.aload_n 0, 1) := by decide +kernel
theorem dX6_badLabel_32 : decode cX6_badLabel 32 = .ok (.getfield 23, 3) := by decide +kernel
theorem dX6_badLabel_35 : decode cX6_badLabel 35 = .ok (.iload 4, 2) := by decide +kernel
theorem dX6_badLabel_37 : decode cX6_badLabel 37 = .ok (.iaload, 1) := by decide +kernel
theorem dX6_badLabel_38 : decode cX6_badLabel 38 = .ok (.aload_n 0, 1) := by decide +kernel
theorem dX6_badLabel_39 : decode cX6_badLabel 39 = .ok (.getfield 32, 3) := by decide +kernel
theorem dX6_badLabel_42 : decode cX6_badLabel 42 = .ok (.iload_n 2, 1) := by decide +kernel
theorem dX6_badLabel_43 : decode cX6_badLabel 43 = .ok (.iaload, 1) := by decide +kernel
theorem dX6_badLabel_44 : decode cX6_badLabel 44 = .ok (.if_icmp .ne 7, 3) := by decide +kernel
theorem dX6_badLabel_47 : decode cX6_badLabel 47 = .ok (.iconst 1, 1) := by decide +kernel
theorem dX6_badLabel_48 : decode cX6_badLabel 48 = .ok (.goto 4, 3) := by decide +kernel
theorem dX6_badLabel_51 : decode cX6_badLabel 51 = .ok (.iconst 0, 1) := by decide +kernel
theorem dX6_badLabel_52 : decode cX6_badLabel 52 = .ok (.iadd, 1) := by decide +kernel
theorem dX6_badLabel_53 : decode cX6_badLabel 53 = .ok (.istore_n 3, 1) := by decide +kernel
theorem dX6_badLabel_54 : decode cX6_badLabel 54 = .ok (.iinc 4 1, 3) := by decide +kernel
theorem dX6_badLabel_57 : decode cX6_badLabel 57 = .ok (.goto (-38), 3) := by decide +kernel
theorem dX6_badLabel_60 : decode cX6_badLabel 60 = .ok (.iload_n 1, 1) := by decide +kernel
theorem dX6_badLabel_61 : decode cX6_badLabel 61 = .ok (.ifCond .eq 39, 3) := by decide +kernel
theorem dX6_badLabel_64 : decode cX6_badLabel 64 = .ok (.aload_n 0, 1) := by decide +kernel
theorem dX6_badLabel_65 : decode cX6_badLabel 65 = .ok (.aload_n 0, 1) := by decide +kernel
theorem dX6_badLabel_66 : decode cX6_badLabel 66 = .ok (.getfield 32, 3) := by decide +kernel
theorem dX6_badLabel_69 : decode cX6_badLabel 69 = .ok (.iload_n 2, 1) := by decide +kernel
theorem dX6_badLabel_70 : decode cX6_badLabel 70 = .ok (.iaload, 1) := by decide +kernel
theorem dX6_badLabel_71 : decode cX6_badLabel 71 = .ok (.iconst 1, 1) := by decide +kernel
theorem dX6_badLabel_72 : decode cX6_badLabel 72 = .ok (.invokevirtual 64, 3) := by decide +kernel
theorem dX6_badLabel_75 : decode cX6_badLabel 75 = .ok (.ifCond .lt 21, 3) := by decide +kernel
theorem dX6_badLabel_78 : decode cX6_badLabel 78 = .ok (.aload_n 0, 1) := by decide +kernel
theorem dX6_badLabel_79 : decode cX6_badLabel 79 = .ok (.aload_n 0, 1) := by decide +kernel
theorem dX6_badLabel_80 : decode cX6_badLabel 80 = .ok (.getfield 32, 3) := by decide +kernel
theorem dX6_badLabel_83 : decode cX6_badLabel 83 = .ok (.iload_n 2, 1) := by decide +kernel
theorem dX6_badLabel_84 : decode cX6_badLabel 84 = .ok (.iaload, 1) := by decide +kernel
theorem dX6_badLabel_85 : decode cX6_badLabel 85 = .ok (.iconst 0, 1) := by decide +kernel
theorem dX6_badLabel_86 : decode cX6_badLabel 86 = .ok (.invokevirtual 64, 3) := by decide +kernel
theorem dX6_badLabel_89 : decode cX6_badLabel 89 = .ok (.ifCond .lt 7, 3) := by decide +kernel
theorem dX6_badLabel_92 : decode cX6_badLabel 92 = .ok (.iconst 1, 1) := by decide +kernel
theorem dX6_badLabel_93 : decode cX6_badLabel 93 = .ok (.goto 17, 3) := by decide +kernel
theorem dX6_badLabel_96 : decode cX6_badLabel 96 = .ok (.iconst 0, 1) := by decide +kernel
theorem dX6_badLabel_97 : decode cX6_badLabel 97 = .ok (.goto 13, 3) := by decide +kernel
theorem dX6_badLabel_100 : decode cX6_badLabel 100 = .ok (.iload_n 3, 1) := by decide +kernel
theorem dX6_badLabel_101 : decode cX6_badLabel 101 = .ok (.iconst 2, 1) := by decide +kernel
theorem dX6_badLabel_102 : decode cX6_badLabel 102 = .ok (.if_icmp .ne 7, 3) := by decide +kernel
theorem dX6_badLabel_105 : decode cX6_badLabel 105 = .ok (.iconst 1, 1) := by decide +kernel
theorem dX6_badLabel_106 : decode cX6_badLabel 106 = .ok (.goto 4, 3) := by decide +kernel
theorem dX6_badLabel_109 : decode cX6_badLabel 109 = .ok (.iconst 0, 1) := by decide +kernel
theorem dX6_badLabel_110 : decode cX6_badLabel 110 = .ok (.istore 4, 2) := by decide +kernel
theorem dX6_badLabel_112 : decode cX6_badLabel 112 = .ok (.iload 4, 2) := by decide +kernel
theorem dX6_badLabel_114 : decode cX6_badLabel 114 = .ok (.ifCond .ne 10, 3) := by decide +kernel
theorem dX6_badLabel_117 : decode cX6_badLabel 117 = .ok (.aload_n 0, 1) := by decide +kernel
theorem dX6_badLabel_118 : decode cX6_badLabel 118 = .ok (.getfield 32, 3) := by decide +kernel
theorem dX6_badLabel_121 : decode cX6_badLabel 121 = .ok (.iload_n 2, 1) := by decide +kernel
theorem dX6_badLabel_122 : decode cX6_badLabel 122 = .ok (.iaload, 1) := by decide +kernel
theorem dX6_badLabel_123 : decode cX6_badLabel 123 = .ok (.ireturn, 1) := by decide +kernel
theorem dX6_badLabel_124 : decode cX6_badLabel 124 = .ok (.iinc 2 1, 3) := by decide +kernel
theorem dX6_badLabel_127 : decode cX6_badLabel 127 = .ok (.goto (-121), 3) := by decide +kernel
theorem dX6_badLabel_130 : decode cX6_badLabel 130 = .ok (.iconst (-1), 1) := by decide +kernel
theorem dX6_badLabel_131 : decode cX6_badLabel 131 = .ok (.ireturn, 1) := by decide +kernel
set_option maxRecDepth 20000 in
theorem ggX6_badPiece_X6_hang : GoodIn wsX6_badPiece wsX6_hang := goodIn_r _ [7, 1, 2, 8, 42, 43, 44, 45, 46, 47, 48, 49, 50, 51, 52, 53, 54, 55, 56, 57, 58, 59, 60, 61, 62, 63, 64] (by decide +kernel) (by decide +kernel)
set_option maxRecDepth 20000 in
theorem gX6_badPiece_X6_hang : GoodIn wsX6_badPiece (wsV RX6 87 RX6 yX6_hang wsX6_hang) := goodIn_app (goodIn_of _ (by decide +kernel)) ggX6_badPiece_X6_hang
set_option maxRecDepth 20000 in
theorem ggX6_badPiece_X6_findFaces : GoodIn wsX6_badPiece wsX6_findFaces := goodIn_r _ [12, 13, 14, 15, 16, 17, 18, 19, 6, 20, 1, 8, 21, 22, 23, 24, 25, 26, 27, 28, 29, 30, 31, 32, 33, 34, 35, 36, 37, 42, 43, 44, 45, 46, 47, 48, 49, 50, 51, 52, 53, 54, 55, 56, 57, 58, 59, 60, 61, 62, 63, 64] (by decide +kernel) (by decide +kernel)
set_option maxRecDepth 20000 in
theorem gX6_badPiece_X6_findFaces : GoodIn wsX6_badPiece (wsV RX6 111 RX6 yX6_findFaces wsX6_findFaces) := goodIn_app (goodIn_of _ (by decide +kernel)) ggX6_badPiece_X6_findFaces
set_option maxRecDepth 20000 in
theorem ggX6_badPiece_X6_facesAt : GoodIn wsX6_badPiece wsX6_facesAt := goodIn_r _ [41, 15, 13, 2, 16, 29, 30, 31, 6, 32, 1, 8, 33, 34, 35, 36, 37, 42, 43, 44, 45, 46, 47, 48, 49, 50, 51, 52, 53, 54, 55, 56, 57, 58, 59, 60, 61, 62, 63, 64] (by decide +kernel) (by decide +kernel)
set_option maxRecDepth 20000 in
theorem gX6_badPiece_X6_facesAt : GoodIn wsX6_badPiece (wsV RX6 114 RX6 yX6_facesAt wsX6_facesAt) := goodIn_app (goodIn_of _ (by decide +kernel)) ggX6_badPiece_X6_facesAt
theorem dX6_badPiece_0 : decode cX6_badPiece 0 = .ok (.aload_n 0, 1) := by decide +kernel
theorem dX6_badPiece_1 : decode cX6_badPiece 1 = .ok (.invokevirtual 87, 3) := by decide +kernel
theorem dX6_badPiece_4 : decode cX6_badPiece 4 = .ok (.aload_n 0, 1) := by decide +kernel
theorem dX6_badPiece_5 : decode cX6_badPiece 5 = .ok (.invokevirtual 111, 3) := by decide +kernel
theorem dX6_badPiece_8 : decode cX6_badPiece 8 = .ok (.iconst (-1), 1) := by decide +kernel
theorem dX6_badPiece_9 : decode cX6_badPiece 9 = .ok (.istore_n 1, 1) := by decide +kernel
theorem dX6_badPiece_10 : decode cX6_badPiece 10 = .ok (.aload_n 0, 1) := by decide +kernel
theorem dX6_badPiece_11 : decode cX6_badPiece 11 = .ok (.getfield 57, 3) := by decide +kernel
theorem dX6_badPiece_14 : decode cX6_badPiece 14 = .ok (.iconst 1, 1) := by decide +kernel
theorem dX6_badPiece_15 : decode cX6_badPiece 15 = .ok (.isub, 1) := by decide +kernel
theorem dX6_badPiece_16 : decode cX6_badPiece 16 = .ok (.istore_n 2, 1) := by decide +kernel
theorem dX6_badPiece_17 : decode cX6_badPiece 17 = .ok (.iload_n 2, 1) := by decide +kernel
theorem dX6_badPiece_18 : decode cX6_badPiece 18 = .ok (.ifCond .lt 75, 3) := by decide +kernel
theorem dX6_badPiece_21 : decode cX6_badPiece 21 = .ok (.iconst 0, 1) := by decide +kernel
theorem dX6_badPiece_22 : decode cX6_badPiece 22 = .ok (.istore_n 3, 1) := by decide +kernel
theorem dX6_badPiece_23 : decode cX6_badPiece 23 = .ok (.iconst 0, 1) := by decide +kernel
theorem dX6_badPiece_24 : decode cX6_badPiece 24 = .ok (.istore 4, 2) := by decide +kernel
theorem dX6_badPiece_26 : decode cX6_badPiece 26 = .ok (.iload 4, 2) := by decide +kernel
theorem dX6_badPiece_28 : decode cX6_badPiece 28 = .ok (.aload_n 0, 1) := by decide +kernel
theorem dX6_badPiece_29 : decode cX6_badPiece 29 = .ok (.getfield 57, 3) := by decide +kernel
theorem dX6_badPiece_32 : decode cX6_badPiece 32 = .ok (.if_icmp .ge 28, 3) := by decide +kernel
theorem dX6_badPiece_35 : decode cX6_badPiece 35 = .ok (.iload_n 3, 1) := by decide +kernel
theorem dX6_badPiece_36 : decode cX6_badPiece 36 = .ok (.aload_n 0, 1) := by decide +kernel
theorem dX6_badPiece_37 : decode cX6_badPiece 37 = .ok (.getfield 45, 3) := by decide +kernel
theorem dX6_badPiece_40 : decode cX6_badPiece 40 = .ok (.iload 4, 2) := by decide +kernel
theorem dX6_badPiece_42 : decode cX6_badPiece 42 = .ok (.iaload, 1) := by decide +kernel
theorem dX6_badPiece_43 : decode cX6_badPiece 43 = .ok (.iload_n 2, 1) := by decide +kernel
theorem dX6_badPiece_44 : decode cX6_badPiece 44 = .ok (.if_icmp .ne 7, 3) := by decide +kernel
theorem dX6_badPiece_47 : decode cX6_badPiece 47 = .ok (.iconst 1, 1) := by decide +kernel
theorem dX6_badPiece_48 : decode cX6_badPiece 48 = .ok (.goto 4, 3) := by decide +kernel
theorem dX6_badPiece_51 : decode cX6_badPiece 51 = .ok (.iconst 0, 1) := by decide +kernel
theorem dX6_badPiece_52 : decode cX6_badPiece 52 = .ok (.iadd, 1) := by decide +kernel
theorem dX6_badPiece_53 : decode cX6_badPiece 53 = .ok (.istore_n 3, 1) := by decide +kernel
theorem dX6_badPiece_54 : decode cX6_badPiece 54 = .ok (.iinc 4 1, 3) := by decide +kernel
theorem dX6_badPiece_57 : decode cX6_badPiece 57 = .ok (.goto (-31), 3) := by decide +kernel
theorem dX6_badPiece_60 : decode cX6_badPiece 60 = .ok (.aload_n 0, 1) := by decide +kernel
theorem dX6_badPiece_61 : decode cX6_badPiece 61 = .ok (.getfield 45, 3) := by decide +kernel
theorem dX6_badPiece_64 : decode cX6_badPiece 64 = .ok (.iload_n 2, 1) := by decide +kernel
theorem dX6_badPiece_65 : decode cX6_badPiece 65 = .ok (.iaload, 1) := by decide +kernel
theorem dX6_badPiece_66 : decode cX6_badPiece 66 = .ok (.iload_n 2, 1) := by decide +kernel
theorem dX6_badPiece_67 : decode cX6_badPiece 67 = .ok (.if_icmp .ne 18, 3) := by decide +kernel
theorem dX6_badPiece_70 : decode cX6_badPiece 70 = .ok (.aload_n 0, 1) := by decide +kernel
theorem dX6_badPiece_71 : decode cX6_badPiece 71 = .ok (.iload_n 2, 1) := by decide +kernel
theorem dX6_badPiece_72 : decode cX6_badPiece 72 = .ok (.invokevirtual 114, 3) := by decide +kernel
theorem dX6_badPiece_75 : decode cX6_badPiece 75 = .ok (.iload_n 3, 1) := by decide +kernel
theorem dX6_badPiece_76 : decode cX6_badPiece 76 = .ok (.iconst 2, 1) := by decide +kernel
theorem dX6_badPiece_77 : decode cX6_badPiece 77 = .ok (.iadd, 1) := by decide +kernel
theorem dX6_badPiece_78 : decode cX6_badPiece 78 = .ok (.if_icmp .eq 7, 3) := by decide +kernel
theorem dX6_badPiece_81 : decode cX6_badPiece 81 = .ok (.iload_n 2, 1) := by decide +kernel
theorem dX6_badPiece_82 : decode cX6_badPiece 82 = .ok (.goto 4, 3) := by decide +kernel
theorem dX6_badPiece_85 : decode cX6_badPiece 85 = .ok (.iload_n 1, 1) := by decide +kernel
theorem dX6_badPiece_86 : decode cX6_badPiece 86 = .ok (.istore_n 1, 1) := by decide +kernel
theorem dX6_badPiece_87 : decode cX6_badPiece 87 = .ok (.iinc 2 (-1), 3) := by decide +kernel
theorem dX6_badPiece_90 : decode cX6_badPiece 90 = .ok (.goto (-73), 3) := by decide +kernel
theorem dX6_badPiece_93 : decode cX6_badPiece 93 = .ok (.iload_n 1, 1) := by decide +kernel
theorem dX6_badPiece_94 : decode cX6_badPiece 94 = .ok (.ireturn, 1) := by decide +kernel
set_option maxRecDepth 20000 in
theorem ggX6_fault_X6_badLabel : GoodIn wsX6_fault wsX6_badLabel := goodIn_r _ [6, 7, 8, 9, 10, 11, 12, 13, 5, 14, 15, 16, 17, 18, 19, 20, 21, 22, 23, 51, 52, 53, 54, 55, 56, 57, 58, 59, 60, 61, 62, 63, 64, 65, 66, 67, 68, 69, 70, 71, 72, 73] (by decide +kernel) (by decide +kernel)
set_option maxRecDepth 20000 in
theorem gX6_fault_X6_badLabel : GoodIn wsX6_fault (wsV RX6 117 RX6 yX6_badLabel wsX6_badLabel) := goodIn_app (goodIn_of _ (by decide +kernel)) ggX6_fault_X6_badLabel
set_option maxRecDepth 20000 in
theorem ggX6_fault_X6_badPiece : GoodIn wsX6_fault wsX6_badPiece := goodIn_r _ [27, 8, 28, 29, 30, 31, 5, 32, 9, 33, 34, 35, 36, 37, 38, 7, 10, 11, 12, 13, 14, 39, 40, 41, 42, 43, 44, 45, 46, 15, 16, 17, 18, 19, 20, 21, 22, 23, 47, 48, 49, 50, 51, 52, 53, 54, 55, 56, 57, 58, 59, 60, 61, 62, 63, 64, 65, 66, 67, 68, 69, 70, 71, 72, 73] (by decide +kernel) (by decide +kernel)
set_option maxRecDepth 20000 in
theorem gX6_fault_X6_badPiece : GoodIn wsX6_fault (wsV RX6 121 RX6 yX6_badPiece wsX6_badPiece) := goodIn_app (goodIn_of _ (by decide +kernel)) ggX6_fault_X6_badPiece
theorem dX6_fault_0 : decode cX6_fault 0 = .ok (.aload_n 0, 1) := by decide +kernel
theorem dX6_fault_1 : decode cX6_fault 1 = .ok (.aload_n 0, 1) := by decide +kernel
theorem dX6_fault_2 : decode cX6_fault 2 = .ok (.iconst 0, 1) := by decide +kernel
theorem dX6_fault_3 : decode cX6_fault 3 = .ok (.invokevirtual 117, 3) := by decide +kernel
theorem dX6_fault_6 : decode cX6_fault 6 = .ok (.putfield 7, 3) := by decide +kernel
theorem dX6_fault_9 : decode cX6_fault 9 = .ok (.aload_n 0, 1) := by decide +kernel
theorem dX6_fault_10 : decode cX6_fault 10 = .ok (.getfield 7, 3) := by decide +kernel
theorem dX6_fault_13 : decode cX6_fault 13 = .ok (.ifCond .lt 5, 3) := by decide +kernel
theorem dX6_fault_16 : decode cX6_fault 16 = .ok (.iconst 1, 1) := by decide +kernel
theorem dX6_fault_17 : decode cX6_fault 17 = .ok (.ireturn, 1) := by decide +kernel
theorem dX6_fault_18 : decode cX6_fault 18 = .ok (.aload_n 0, 1) := by decide +kernel
theorem dX6_fault_19 : decode cX6_fault 19 = .ok (.aload_n 0, 1) := by decide +kernel
theorem dX6_fault_20 : decode cX6_fault 20 = .ok (.iconst 1, 1) := by decide +kernel
theorem dX6_fault_21 : decode cX6_fault 21 = .ok (.invokevirtual 117, 3) := by decide +kernel
theorem dX6_fault_24 : decode cX6_fault 24 = .ok (.putfield 7, 3) := by decide +kernel
theorem dX6_fault_27 : decode cX6_fault 27 = .ok (.aload_n 0, 1) := by decide +kernel
theorem dX6_fault_28 : decode cX6_fault 28 = .ok (.getfield 7, 3) := by decide +kernel
theorem dX6_fault_31 : decode cX6_fault 31 = .ok (.ifCond .lt 5, 3) := by decide +kernel
theorem dX6_fault_34 : decode cX6_fault 34 = .ok (.iconst 2, 1) := by decide +kernel
theorem dX6_fault_35 : decode cX6_fault 35 = .ok (.ireturn, 1) := by decide +kernel
theorem dX6_fault_36 : decode cX6_fault 36 = .ok (.aload_n 0, 1) := by decide +kernel
theorem dX6_fault_37 : decode cX6_fault 37 = .ok (.aload_n 0, 1) := by decide +kernel
theorem dX6_fault_38 : decode cX6_fault 38 = .ok (.invokevirtual 121, 3) := by decide +kernel
theorem dX6_fault_41 : decode cX6_fault 41 = .ok (.putfield 7, 3) := by decide +kernel
theorem dX6_fault_44 : decode cX6_fault 44 = .ok (.aload_n 0, 1) := by decide +kernel
theorem dX6_fault_45 : decode cX6_fault 45 = .ok (.getfield 7, 3) := by decide +kernel
theorem dX6_fault_48 : decode cX6_fault 48 = .ok (.ifCond .lt 7, 3) := by decide +kernel
theorem dX6_fault_51 : decode cX6_fault 51 = .ok (.iconst 3, 1) := by decide +kernel
theorem dX6_fault_52 : decode cX6_fault 52 = .ok (.goto 4, 3) := by decide +kernel
theorem dX6_fault_55 : decode cX6_fault 55 = .ok (.iconst 0, 1) := by decide +kernel
theorem dX6_fault_56 : decode cX6_fault 56 = .ok (.ireturn, 1) := by decide +kernel
set_option maxRecDepth 20000 in
theorem ggX6_check_X6_take : GoodIn wsX6_check wsX6_take := goodIn_r _ [6, 7, 8, 1, 9, 10, 11, 12, 13, 14, 15, 16, 71, 72, 73, 74, 75, 76, 77, 78, 79, 80, 81, 82, 83, 84, 85, 86, 87, 88, 89, 90, 91, 92, 93] (by decide +kernel) (by decide +kernel)
set_option maxRecDepth 20000 in
theorem gX6_check_X6_take : GoodIn wsX6_check (wsV RX6 125 RX6 yX6_take wsX6_take) := goodIn_app (goodIn_of _ (by decide +kernel)) ggX6_check_X6_take
set_option maxRecDepth 20000 in
theorem ggX6_check_X6_fault : GoodIn wsX6_check wsX6_fault := goodIn_r _ [20, 21, 22, 23, 24, 5, 25, 26, 7, 13, 27, 28, 29, 30, 31, 32, 33, 34, 35, 36, 37, 38, 39, 11, 40, 41, 42, 43, 44, 45, 46, 47, 48, 49, 50, 51, 52, 53, 54, 55, 56, 57, 58, 59, 60, 61, 62, 63, 64, 65, 66, 71, 72, 73, 74, 75, 76, 77, 78, 79, 80, 81, 82, 83, 84, 85, 86, 87, 88, 89, 90, 91, 92, 93] (by decide +kernel) (by decide +kernel)
set_option maxRecDepth 20000 in
theorem gX6_check_X6_fault : GoodIn wsX6_check (wsV RX6 128 RX6 yX6_fault wsX6_fault) := goodIn_app (goodIn_of _ (by decide +kernel)) ggX6_check_X6_fault
set_option maxRecDepth 20000 in
theorem ggX6_check_X6_back : GoodIn wsX6_check wsX6_back := goodIn_r _ [70, 8, 7, 9, 1, 11, 10, 13, 12, 71, 72, 73, 74, 75, 76, 77, 78, 79, 80, 81, 82, 83, 84, 85, 86, 87, 88, 89, 90, 91, 92, 93] (by decide +kernel) (by decide +kernel)
set_option maxRecDepth 20000 in
theorem gX6_check_X6_back : GoodIn wsX6_check (wsV RX6 131 RX6 yX6_back wsX6_back) := goodIn_app (goodIn_of _ (by decide +kernel)) ggX6_check_X6_back
theorem dX6_check_0 : decode cX6_check 0 = .ok (.iload_n 1, 1) := by decide +kernel
theorem dX6_check_1 : decode cX6_check 1 = .ok (.ifCond .lt 9, 3) := by decide +kernel
theorem dX6_check_4 : decode cX6_check 4 = .ok (.iload_n 1, 1) := by decide +kernel
theorem dX6_check_5 : decode cX6_check 5 = .ok (.bipush 20, 2) := by decide +kernel
theorem dX6_check_7 : decode cX6_check 7 = .ok (.if_icmp .le 5, 3) := by decide +kernel
theorem dX6_check_10 : decode cX6_check 10 = .ok (.iconst (-1), 1) := by decide +kernel
theorem dX6_check_11 : decode cX6_check 11 = .ok (.ireturn, 1) := by decide +kernel
theorem dX6_check_12 : decode cX6_check 12 = .ok (.aload_n 0, 1) := by decide +kernel
theorem dX6_check_13 : decode cX6_check 13 = .ok (.invokevirtual 125, 3) := by decide +kernel
theorem dX6_check_16 : decode cX6_check 16 = .ok (.aload_n 0, 1) := by decide +kernel
theorem dX6_check_17 : decode cX6_check 17 = .ok (.iload_n 1, 1) := by decide +kernel
theorem dX6_check_18 : decode cX6_check 18 = .ok (.putfield 105, 3) := by decide +kernel
theorem dX6_check_21 : decode cX6_check 21 = .ok (.aload_n 0, 1) := by decide +kernel
theorem dX6_check_22 : decode cX6_check 22 = .ok (.invokevirtual 128, 3) := by decide +kernel
theorem dX6_check_25 : decode cX6_check 25 = .ok (.istore_n 2, 1) := by decide +kernel
theorem dX6_check_26 : decode cX6_check 26 = .ok (.iload_n 2, 1) := by decide +kernel
theorem dX6_check_27 : decode cX6_check 27 = .ok (.ifCond .le 7, 3) := by decide +kernel
theorem dX6_check_30 : decode cX6_check 30 = .ok (.aload_n 0, 1) := by decide +kernel
theorem dX6_check_31 : decode cX6_check 31 = .ok (.invokevirtual 131, 3) := by decide +kernel
theorem dX6_check_34 : decode cX6_check 34 = .ok (.iload_n 2, 1) := by decide +kernel
theorem dX6_check_35 : decode cX6_check 35 = .ok (.ireturn, 1) := by decide +kernel
theorem dX6_which_0 : decode cX6_which 0 = .ok (.aload_n 0, 1) := by decide +kernel
theorem dX6_which_1 : decode cX6_which 1 = .ok (.getfield 7, 3) := by decide +kernel
theorem dX6_which_4 : decode cX6_which 4 = .ok (.ireturn, 1) := by decide +kernel
theorem dX6_signs_0 : decode cX6_signs 0 = .ok (.iconst 0, 1) := by decide +kernel
theorem dX6_signs_1 : decode cX6_signs 1 = .ok (.istore_n 1, 1) := by decide +kernel
theorem dX6_signs_2 : decode cX6_signs 2 = .ok (.iconst 0, 1) := by decide +kernel
theorem dX6_signs_3 : decode cX6_signs 3 = .ok (.istore_n 2, 1) := by decide +kernel
theorem dX6_signs_4 : decode cX6_signs 4 = .ok (.iload_n 2, 1) := by decide +kernel
theorem dX6_signs_5 : decode cX6_signs 5 = .ok (.aload_n 0, 1) := by decide +kernel
theorem dX6_signs_6 : decode cX6_signs 6 = .ok (.getfield 57, 3) := by decide +kernel
theorem dX6_signs_9 : decode cX6_signs 9 = .ok (.if_icmp .ge 18, 3) := by decide +kernel
theorem dX6_signs_12 : decode cX6_signs 12 = .ok (.iload_n 1, 1) := by decide +kernel
theorem dX6_signs_13 : decode cX6_signs 13 = .ok (.aload_n 0, 1) := by decide +kernel
theorem dX6_signs_14 : decode cX6_signs 14 = .ok (.getfield 20, 3) := by decide +kernel
theorem dX6_signs_17 : decode cX6_signs 17 = .ok (.iload_n 2, 1) := by decide +kernel
theorem dX6_signs_18 : decode cX6_signs 18 = .ok (.iaload, 1) := by decide +kernel
theorem dX6_signs_19 : decode cX6_signs 19 = .ok (.iadd, 1) := by decide +kernel
theorem dX6_signs_20 : decode cX6_signs 20 = .ok (.istore_n 1, 1) := by decide +kernel
theorem dX6_signs_21 : decode cX6_signs 21 = .ok (.iinc 2 1, 3) := by decide +kernel
theorem dX6_signs_24 : decode cX6_signs 24 = .ok (.goto (-20), 3) := by decide +kernel
theorem dX6_signs_27 : decode cX6_signs 27 = .ok (.iload_n 1, 1) := by decide +kernel
theorem dX6_signs_28 : decode cX6_signs 28 = .ok (.ireturn, 1) := by decide +kernel
set_option maxRecDepth 20000 in
theorem ggX6_arcOf_X6_placeOf : GoodIn wsX6_arcOf wsX6_placeOf := goodIn_r _ [6, 7, 1, 8, 9, 10, 5, 11, 12, 23, 24, 25, 26, 27, 28, 29, 30, 31, 32, 33, 34, 35, 36, 37, 38, 39, 40, 41, 42, 43, 44, 45] (by decide +kernel) (by decide +kernel)
set_option maxRecDepth 20000 in
theorem gX6_arcOf_X6_placeOf : GoodIn wsX6_arcOf (wsV RX6 64 RX6 yX6_placeOf wsX6_placeOf) := goodIn_app (goodIn_of _ (by decide +kernel)) ggX6_arcOf_X6_placeOf
set_option maxRecDepth 20000 in
theorem ggX6_arcOf_X6_isUpper : GoodIn wsX6_arcOf wsX6_isUpper := goodIn_r _ [15] (by decide +kernel) (by decide +kernel)
set_option maxRecDepth 20000 in
theorem gX6_arcOf_X6_isUpper : GoodIn wsX6_arcOf (va_wsS RX6 134 yX6_isUpper wsX6_isUpper) := goodIn_app (goodIn_of _ (by decide +kernel)) ggX6_arcOf_X6_isUpper
set_option maxRecDepth 20000 in
theorem ggX6_arcOf_X6_across : GoodIn wsX6_arcOf wsX6_across := goodIn_r _ [18] (by decide +kernel) (by decide +kernel)
set_option maxRecDepth 20000 in
theorem gX6_arcOf_X6_across : GoodIn wsX6_arcOf (va_wsS RX6 68 yX6_across wsX6_across) := goodIn_app (goodIn_of _ (by decide +kernel)) ggX6_arcOf_X6_across
set_option maxRecDepth 20000 in
theorem ggX6_arcOf_X6_next : GoodIn wsX6_arcOf wsX6_next := goodIn_r _ [22, 1, 2, 3, 4, 5, 6, 7, 8, 9, 10, 11, 12, 16, 17, 18, 23, 24, 25, 26, 27, 28, 29, 30, 31, 32, 33, 34, 35, 36, 37, 38, 39, 40, 41, 42, 43, 44, 45] (by decide +kernel) (by decide +kernel)
set_option maxRecDepth 20000 in
theorem gX6_arcOf_X6_next : GoodIn wsX6_arcOf (wsV RX6 81 RX6 yX6_next wsX6_next) := goodIn_app (goodIn_of _ (by decide +kernel)) ggX6_arcOf_X6_next
theorem dX6_arcOf_0 : decode cX6_arcOf 0 = .ok (.iload_n 1, 1) := by decide +kernel
theorem dX6_arcOf_1 : decode cX6_arcOf 1 = .ok (.istore_n 2, 1) := by decide +kernel
theorem dX6_arcOf_2 : decode cX6_arcOf 2 = .ok (.aload_n 0, 1) := by decide +kernel
theorem dX6_arcOf_3 : decode cX6_arcOf 3 = .ok (.iload_n 2, 1) := by decide +kernel
theorem dX6_arcOf_4 : decode cX6_arcOf 4 = .ok (.iconst 1, 1) := by decide +kernel
theorem dX6_arcOf_5 : decode cX6_arcOf 5 = .ok (.invokevirtual 64, 3) := by decide +kernel
theorem dX6_arcOf_8 : decode cX6_arcOf 8 = .ok (.invokestatic 134, 3) := by decide +kernel
theorem dX6_arcOf_11 : decode cX6_arcOf 11 = .ok (.istore_n 3, 1) := by decide +kernel
theorem dX6_arcOf_12 : decode cX6_arcOf 12 = .ok (.iload_n 3, 1) := by decide +kernel
theorem dX6_arcOf_13 : decode cX6_arcOf 13 = .ok (.ifCond .eq 44, 3) := by decide +kernel
theorem dX6_arcOf_16 : decode cX6_arcOf 16 = .ok (.aload_n 0, 1) := by decide +kernel
theorem dX6_arcOf_17 : decode cX6_arcOf 17 = .ok (.getfield 23, 3) := by decide +kernel
theorem dX6_arcOf_20 : decode cX6_arcOf 20 = .ok (.aload_n 0, 1) := by decide +kernel
theorem dX6_arcOf_21 : decode cX6_arcOf 21 = .ok (.iload_n 2, 1) := by decide +kernel
theorem dX6_arcOf_22 : decode cX6_arcOf 22 = .ok (.iconst 1, 1) := by decide +kernel
theorem dX6_arcOf_23 : decode cX6_arcOf 23 = .ok (.invokevirtual 64, 3) := by decide +kernel
theorem dX6_arcOf_26 : decode cX6_arcOf 26 = .ok (.invokestatic 68, 3) := by decide +kernel
theorem dX6_arcOf_29 : decode cX6_arcOf 29 = .ok (.iaload, 1) := by decide +kernel
theorem dX6_arcOf_30 : decode cX6_arcOf 30 = .ok (.istore_n 2, 1) := by decide +kernel
theorem dX6_arcOf_31 : decode cX6_arcOf 31 = .ok (.iload_n 2, 1) := by decide +kernel
theorem dX6_arcOf_32 : decode cX6_arcOf 32 = .ok (.iload_n 1, 1) := by decide +kernel
theorem dX6_arcOf_33 : decode cX6_arcOf 33 = .ok (.if_icmp .eq 19, 3) := by decide +kernel
theorem dX6_arcOf_36 : decode cX6_arcOf 36 = .ok (.aload_n 0, 1) := by decide +kernel
theorem dX6_arcOf_37 : decode cX6_arcOf 37 = .ok (.iload_n 2, 1) := by decide +kernel
theorem dX6_arcOf_38 : decode cX6_arcOf 38 = .ok (.iconst 1, 1) := by decide +kernel
theorem dX6_arcOf_39 : decode cX6_arcOf 39 = .ok (.invokevirtual 64, 3) := by decide +kernel
theorem dX6_arcOf_42 : decode cX6_arcOf 42 = .ok (.invokestatic 134, 3) := by decide +kernel
theorem dX6_arcOf_45 : decode cX6_arcOf 45 = .ok (.ifCond .eq 7, 3) := by decide +kernel
theorem dX6_arcOf_48 : decode cX6_arcOf 48 = .ok (.iconst 1, 1) := by decide +kernel
theorem dX6_arcOf_49 : decode cX6_arcOf 49 = .ok (.goto 4, 3) := by decide +kernel
theorem dX6_arcOf_52 : decode cX6_arcOf 52 = .ok (.iconst 0, 1) := by decide +kernel
theorem dX6_arcOf_53 : decode cX6_arcOf 53 = .ok (.istore_n 3, 1) := by decide +kernel
theorem dX6_arcOf_54 : decode cX6_arcOf 54 = .ok (.goto (-42), 3) := by decide +kernel
theorem dX6_arcOf_57 : decode cX6_arcOf 57 = .ok (.iload_n 2, 1) := by decide +kernel
theorem dX6_arcOf_58 : decode cX6_arcOf 58 = .ok (.istore 4, 2) := by decide +kernel
theorem dX6_arcOf_60 : decode cX6_arcOf 60 = .ok (.iload_n 2, 1) := by decide +kernel
theorem dX6_arcOf_61 : decode cX6_arcOf 61 = .ok (.istore 5, 2) := by decide +kernel
theorem dX6_arcOf_63 : decode cX6_arcOf 63 = .ok (.aload_n 0, 1) := by decide +kernel
theorem dX6_arcOf_64 : decode cX6_arcOf 64 = .ok (.iload 5, 2) := by decide +kernel
theorem dX6_arcOf_66 : decode cX6_arcOf 66 = .ok (.iconst 0, 1) := by decide +kernel
theorem dX6_arcOf_67 : decode cX6_arcOf 67 = .ok (.invokevirtual 64, 3) := by decide +kernel
theorem dX6_arcOf_70 : decode cX6_arcOf 70 = .ok (.invokestatic 134, 3) := by decide +kernel
theorem dX6_arcOf_73 : decode cX6_arcOf 73 = .ok (.ifCond .eq 40, 3) := by decide +kernel
theorem dX6_arcOf_76 : decode cX6_arcOf 76 = .ok (.aload_n 0, 1) := by decide +kernel
theorem dX6_arcOf_77 : decode cX6_arcOf 77 = .ok (.iload 5, 2) := by decide +kernel
theorem dX6_arcOf_79 : decode cX6_arcOf 79 = .ok (.invokevirtual 81, 3) := by decide +kernel
theorem dX6_arcOf_82 : decode cX6_arcOf 82 = .ok (.iload_n 2, 1) := by decide +kernel
theorem dX6_arcOf_83 : decode cX6_arcOf 83 = .ok (.if_icmp .eq 30, 3) := by decide +kernel
theorem dX6_arcOf_86 : decode cX6_arcOf 86 = .ok (.aload_n 0, 1) := by decide +kernel
theorem dX6_arcOf_87 : decode cX6_arcOf 87 = .ok (.iload 5, 2) := by decide +kernel
theorem dX6_arcOf_89 : decode cX6_arcOf 89 = .ok (.invokevirtual 81, 3) := by decide +kernel
theorem dX6_arcOf_92 : decode cX6_arcOf 92 = .ok (.istore 5, 2) := by decide +kernel
theorem dX6_arcOf_94 : decode cX6_arcOf 94 = .ok (.iload 5, 2) := by decide +kernel
theorem dX6_arcOf_96 : decode cX6_arcOf 96 = .ok (.iload 4, 2) := by decide +kernel
theorem dX6_arcOf_98 : decode cX6_arcOf 98 = .ok (.if_icmp .ge 8, 3) := by decide +kernel
theorem dX6_arcOf_101 : decode cX6_arcOf 101 = .ok (.iload 5, 2) := by decide +kernel
theorem dX6_arcOf_103 : decode cX6_arcOf 103 = .ok (.goto 5, 3) := by decide +kernel
theorem dX6_arcOf_106 : decode cX6_arcOf 106 = .ok (.iload 4, 2) := by decide +kernel
theorem dX6_arcOf_108 : decode cX6_arcOf 108 = .ok (.istore 4, 2) := by decide +kernel
theorem dX6_arcOf_110 : decode cX6_arcOf 110 = .ok (.goto (-47), 3) := by decide +kernel
theorem dX6_arcOf_113 : decode cX6_arcOf 113 = .ok (.iload 4, 2) := by decide +kernel
theorem dX6_arcOf_115 : decode cX6_arcOf 115 = .ok (.ireturn, 1) := by decide +kernel
set_option maxRecDepth 20000 in
theorem ggX6_arcs_X6_sort : GoodIn wsX6_arcs wsX6_sort := goodIn_r _ [8, 2, 9, 3, 10, 34, 35, 36, 37, 38, 39, 40, 41, 42, 43, 44, 45, 46, 47, 48, 49, 50, 51, 52, 53, 54, 55, 56] (by decide +kernel) (by decide +kernel)
set_option maxRecDepth 20000 in
theorem gX6_arcs_X6_sort : GoodIn wsX6_arcs (wsV RX6 78 RX6 yX6_sort wsX6_sort) := goodIn_app (goodIn_of _ (by decide +kernel)) ggX6_arcs_X6_sort
set_option maxRecDepth 20000 in
theorem ggX6_arcs_X6_arcOf : GoodIn wsX6_arcs wsX6_arcOf := goodIn_r _ [14, 10, 15, 16, 17, 7, 18, 9, 19, 20, 21, 22, 23, 24, 25, 26, 27, 28, 29, 30, 31, 32, 33, 34, 35, 36, 37, 38, 39, 40, 41, 42, 43, 44, 45, 46, 47, 48, 49, 50, 51, 52, 53, 54, 55, 56] (by decide +kernel) (by decide +kernel)
set_option maxRecDepth 20000 in
theorem gX6_arcs_X6_arcOf : GoodIn wsX6_arcs (wsV RX6 137 RX6 yX6_arcOf wsX6_arcOf) := goodIn_app (goodIn_of _ (by decide +kernel)) ggX6_arcs_X6_arcOf
theorem dX6_arcs_0 : decode cX6_arcs 0 = .ok (.aload_n 0, 1) := by decide +kernel
theorem dX6_arcs_1 : decode cX6_arcs 1 = .ok (.getfield 105, 3) := by decide +kernel
theorem dX6_arcs_4 : decode cX6_arcs 4 = .ok (.istore_n 1, 1) := by decide +kernel
theorem dX6_arcs_5 : decode cX6_arcs 5 = .ok (.aload_n 0, 1) := by decide +kernel
theorem dX6_arcs_6 : decode cX6_arcs 6 = .ok (.invokevirtual 78, 3) := by decide +kernel
theorem dX6_arcs_9 : decode cX6_arcs 9 = .ok (.iconst 0, 1) := by decide +kernel
theorem dX6_arcs_10 : decode cX6_arcs 10 = .ok (.istore_n 2, 1) := by decide +kernel
theorem dX6_arcs_11 : decode cX6_arcs 11 = .ok (.iload_n 2, 1) := by decide +kernel
theorem dX6_arcs_12 : decode cX6_arcs 12 = .ok (.aload_n 0, 1) := by decide +kernel
theorem dX6_arcs_13 : decode cX6_arcs 13 = .ok (.getfield 72, 3) := by decide +kernel
theorem dX6_arcs_16 : decode cX6_arcs 16 = .ok (.if_icmp .ge 36, 3) := by decide +kernel
theorem dX6_arcs_19 : decode cX6_arcs 19 = .ok (.iload_n 1, 1) := by decide +kernel
theorem dX6_arcs_20 : decode cX6_arcs 20 = .ok (.aload_n 0, 1) := by decide +kernel
theorem dX6_arcs_21 : decode cX6_arcs 21 = .ok (.aload_n 0, 1) := by decide +kernel
theorem dX6_arcs_22 : decode cX6_arcs 22 = .ok (.getfield 32, 3) := by decide +kernel
theorem dX6_arcs_25 : decode cX6_arcs 25 = .ok (.iload_n 2, 1) := by decide +kernel
theorem dX6_arcs_26 : decode cX6_arcs 26 = .ok (.iaload, 1) := by decide +kernel
theorem dX6_arcs_27 : decode cX6_arcs 27 = .ok (.invokevirtual 137, 3) := by decide +kernel
theorem dX6_arcs_30 : decode cX6_arcs 30 = .ok (.aload_n 0, 1) := by decide +kernel
theorem dX6_arcs_31 : decode cX6_arcs 31 = .ok (.getfield 32, 3) := by decide +kernel
theorem dX6_arcs_34 : decode cX6_arcs 34 = .ok (.iload_n 2, 1) := by decide +kernel
theorem dX6_arcs_35 : decode cX6_arcs 35 = .ok (.iaload, 1) := by decide +kernel
theorem dX6_arcs_36 : decode cX6_arcs 36 = .ok (.if_icmp .ne 7, 3) := by decide +kernel
theorem dX6_arcs_39 : decode cX6_arcs 39 = .ok (.iconst 1, 1) := by decide +kernel
theorem dX6_arcs_40 : decode cX6_arcs 40 = .ok (.goto 4, 3) := by decide +kernel
theorem dX6_arcs_43 : decode cX6_arcs 43 = .ok (.iconst 0, 1) := by decide +kernel
theorem dX6_arcs_44 : decode cX6_arcs 44 = .ok (.iadd, 1) := by decide +kernel
theorem dX6_arcs_45 : decode cX6_arcs 45 = .ok (.istore_n 1, 1) := by decide +kernel
theorem dX6_arcs_46 : decode cX6_arcs 46 = .ok (.iinc 2 1, 3) := by decide +kernel
theorem dX6_arcs_49 : decode cX6_arcs 49 = .ok (.goto (-38), 3) := by decide +kernel
theorem dX6_arcs_52 : decode cX6_arcs 52 = .ok (.iload_n 1, 1) := by decide +kernel
theorem dX6_arcs_53 : decode cX6_arcs 53 = .ok (.ireturn, 1) := by decide +kernel
set_option maxRecDepth 20000 in
theorem ggX6_seifertNext_X6_placeOf : GoodIn wsX6_seifertNext wsX6_placeOf := goodIn_r _ [6, 7, 1, 8, 9, 10, 5, 11, 12, 20, 21, 22, 23, 24, 25, 26, 27, 28, 29, 30, 31, 32, 33, 34, 35, 36, 37, 38, 39, 40, 41, 42] (by decide +kernel) (by decide +kernel)
set_option maxRecDepth 20000 in
theorem gX6_seifertNext_X6_placeOf : GoodIn wsX6_seifertNext (wsV RX6 64 RX6 yX6_placeOf wsX6_placeOf) := goodIn_app (goodIn_of _ (by decide +kernel)) ggX6_seifertNext_X6_placeOf
set_option maxRecDepth 20000 in
theorem ggX6_seifertNext_X6_isUpper : GoodIn wsX6_seifertNext wsX6_isUpper := goodIn_r _ [15] (by decide +kernel) (by decide +kernel)
set_option maxRecDepth 20000 in
theorem gX6_seifertNext_X6_isUpper : GoodIn wsX6_seifertNext (va_wsS RX6 134 yX6_isUpper wsX6_isUpper) := goodIn_app (goodIn_of _ (by decide +kernel)) ggX6_seifertNext_X6_isUpper
set_option maxRecDepth 20000 in
theorem ggX6_seifertNext_X6_upperIn : GoodIn wsX6_seifertNext wsX6_upperIn := goodIn_r _ [19, 12, 20, 21, 22, 23, 24, 25, 26, 27, 28, 29, 30, 31, 32, 33, 34, 35, 36, 37, 38, 39, 40, 41, 42] (by decide +kernel) (by decide +kernel)
set_option maxRecDepth 20000 in
theorem gX6_seifertNext_X6_upperIn : GoodIn wsX6_seifertNext (wsV RX6 140 RX6 yX6_upperIn wsX6_upperIn) := goodIn_app (goodIn_of _ (by decide +kernel)) ggX6_seifertNext_X6_upperIn
theorem dX6_seifertNext_0 : decode cX6_seifertNext 0 = .ok (.aload_n 0, 1) := by decide +kernel
theorem dX6_seifertNext_1 : decode cX6_seifertNext 1 = .ok (.iload_n 1, 1) := by decide +kernel
theorem dX6_seifertNext_2 : decode cX6_seifertNext 2 = .ok (.iconst 0, 1) := by decide +kernel
theorem dX6_seifertNext_3 : decode cX6_seifertNext 3 = .ok (.invokevirtual 64, 3) := by decide +kernel
theorem dX6_seifertNext_6 : decode cX6_seifertNext 6 = .ok (.istore_n 2, 1) := by decide +kernel
theorem dX6_seifertNext_7 : decode cX6_seifertNext 7 = .ok (.iload_n 2, 1) := by decide +kernel
theorem dX6_seifertNext_8 : decode cX6_seifertNext 8 = .ok (.iconst 4, 1) := by decide +kernel
theorem dX6_seifertNext_9 : decode cX6_seifertNext 9 = .ok (.idiv, 1) := by decide +kernel
theorem dX6_seifertNext_10 : decode cX6_seifertNext 10 = .ok (.istore_n 3, 1) := by decide +kernel
theorem dX6_seifertNext_11 : decode cX6_seifertNext 11 = .ok (.aload_n 0, 1) := by decide +kernel
theorem dX6_seifertNext_12 : decode cX6_seifertNext 12 = .ok (.getfield 23, 3) := by decide +kernel
theorem dX6_seifertNext_15 : decode cX6_seifertNext 15 = .ok (.iconst 4, 1) := by decide +kernel
theorem dX6_seifertNext_16 : decode cX6_seifertNext 16 = .ok (.iload_n 3, 1) := by decide +kernel
theorem dX6_seifertNext_17 : decode cX6_seifertNext 17 = .ok (.imul, 1) := by decide +kernel
theorem dX6_seifertNext_18 : decode cX6_seifertNext 18 = .ok (.iload_n 2, 1) := by decide +kernel
theorem dX6_seifertNext_19 : decode cX6_seifertNext 19 = .ok (.invokestatic 134, 3) := by decide +kernel
theorem dX6_seifertNext_22 : decode cX6_seifertNext 22 = .ok (.ifCond .eq 7, 3) := by decide +kernel
theorem dX6_seifertNext_25 : decode cX6_seifertNext 25 = .ok (.iconst 2, 1) := by decide +kernel
theorem dX6_seifertNext_26 : decode cX6_seifertNext 26 = .ok (.goto 12, 3) := by decide +kernel
theorem dX6_seifertNext_29 : decode cX6_seifertNext 29 = .ok (.aload_n 0, 1) := by decide +kernel
theorem dX6_seifertNext_30 : decode cX6_seifertNext 30 = .ok (.iload_n 3, 1) := by decide +kernel
theorem dX6_seifertNext_31 : decode cX6_seifertNext 31 = .ok (.invokevirtual 140, 3) := by decide +kernel
theorem dX6_seifertNext_34 : decode cX6_seifertNext 34 = .ok (.iconst 2, 1) := by decide +kernel
theorem dX6_seifertNext_35 : decode cX6_seifertNext 35 = .ok (.iadd, 1) := by decide +kernel
theorem dX6_seifertNext_36 : decode cX6_seifertNext 36 = .ok (.iconst 4, 1) := by decide +kernel
theorem dX6_seifertNext_37 : decode cX6_seifertNext 37 = .ok (.irem, 1) := by decide +kernel
theorem dX6_seifertNext_38 : decode cX6_seifertNext 38 = .ok (.iadd, 1) := by decide +kernel
theorem dX6_seifertNext_39 : decode cX6_seifertNext 39 = .ok (.iaload, 1) := by decide +kernel
theorem dX6_seifertNext_40 : decode cX6_seifertNext 40 = .ok (.ireturn, 1) := by decide +kernel
set_option maxRecDepth 20000 in
theorem ggX6_seifert_X6_sort : GoodIn wsX6_seifert wsX6_sort := goodIn_r _ [8, 2, 9, 3, 10, 31, 32, 33, 34, 35, 36, 37, 38, 39, 40, 41, 42, 43, 44, 45, 46, 47, 48, 49, 50, 51, 52, 53] (by decide +kernel) (by decide +kernel)
set_option maxRecDepth 20000 in
theorem gX6_seifert_X6_sort : GoodIn wsX6_seifert (wsV RX6 78 RX6 yX6_sort wsX6_sort) := goodIn_app (goodIn_of _ (by decide +kernel)) ggX6_seifert_X6_sort
set_option maxRecDepth 20000 in
theorem ggX6_seifert_X6_seifertNext : GoodIn wsX6_seifert wsX6_seifertNext := goodIn_r _ [14, 10, 15, 16, 17, 7, 18, 9, 19, 20, 21, 22, 23, 24, 25, 26, 27, 28, 29, 30, 31, 32, 33, 34, 35, 36, 37, 38, 39, 40, 41, 42, 43, 44, 45, 46, 47, 48, 49, 50, 51, 52, 53] (by decide +kernel) (by decide +kernel)
set_option maxRecDepth 20000 in
theorem gX6_seifert_X6_seifertNext : GoodIn wsX6_seifert (wsV RX6 143 RX6 yX6_seifertNext wsX6_seifertNext) := goodIn_app (goodIn_of _ (by decide +kernel)) ggX6_seifert_X6_seifertNext
theorem dX6_seifert_0 : decode cX6_seifert 0 = .ok (.aload_n 0, 1) := by decide +kernel
theorem dX6_seifert_1 : decode cX6_seifert 1 = .ok (.getfield 105, 3) := by decide +kernel
theorem dX6_seifert_4 : decode cX6_seifert 4 = .ok (.istore_n 1, 1) := by decide +kernel
theorem dX6_seifert_5 : decode cX6_seifert 5 = .ok (.aload_n 0, 1) := by decide +kernel
theorem dX6_seifert_6 : decode cX6_seifert 6 = .ok (.invokevirtual 78, 3) := by decide +kernel
theorem dX6_seifert_9 : decode cX6_seifert 9 = .ok (.iconst 0, 1) := by decide +kernel
theorem dX6_seifert_10 : decode cX6_seifert 10 = .ok (.istore_n 2, 1) := by decide +kernel
theorem dX6_seifert_11 : decode cX6_seifert 11 = .ok (.iload_n 2, 1) := by decide +kernel
theorem dX6_seifert_12 : decode cX6_seifert 12 = .ok (.aload_n 0, 1) := by decide +kernel
theorem dX6_seifert_13 : decode cX6_seifert 13 = .ok (.getfield 72, 3) := by decide +kernel
theorem dX6_seifert_16 : decode cX6_seifert 16 = .ok (.if_icmp .ge 81, 3) := by decide +kernel
theorem dX6_seifert_19 : decode cX6_seifert 19 = .ok (.aload_n 0, 1) := by decide +kernel
theorem dX6_seifert_20 : decode cX6_seifert 20 = .ok (.getfield 32, 3) := by decide +kernel
theorem dX6_seifert_23 : decode cX6_seifert 23 = .ok (.iload_n 2, 1) := by decide +kernel
theorem dX6_seifert_24 : decode cX6_seifert 24 = .ok (.iaload, 1) := by decide +kernel
theorem dX6_seifert_25 : decode cX6_seifert 25 = .ok (.istore_n 3, 1) := by decide +kernel
theorem dX6_seifert_26 : decode cX6_seifert 26 = .ok (.aload_n 0, 1) := by decide +kernel
theorem dX6_seifert_27 : decode cX6_seifert 27 = .ok (.aload_n 0, 1) := by decide +kernel
theorem dX6_seifert_28 : decode cX6_seifert 28 = .ok (.getfield 32, 3) := by decide +kernel
theorem dX6_seifert_31 : decode cX6_seifert 31 = .ok (.iload_n 2, 1) := by decide +kernel
theorem dX6_seifert_32 : decode cX6_seifert 32 = .ok (.iaload, 1) := by decide +kernel
theorem dX6_seifert_33 : decode cX6_seifert 33 = .ok (.invokevirtual 143, 3) := by decide +kernel
theorem dX6_seifert_36 : decode cX6_seifert 36 = .ok (.istore 4, 2) := by decide +kernel
theorem dX6_seifert_38 : decode cX6_seifert 38 = .ok (.iload 4, 2) := by decide +kernel
theorem dX6_seifert_40 : decode cX6_seifert 40 = .ok (.aload_n 0, 1) := by decide +kernel
theorem dX6_seifert_41 : decode cX6_seifert 41 = .ok (.getfield 32, 3) := by decide +kernel
theorem dX6_seifert_44 : decode cX6_seifert 44 = .ok (.iload_n 2, 1) := by decide +kernel
theorem dX6_seifert_45 : decode cX6_seifert 45 = .ok (.iaload, 1) := by decide +kernel
theorem dX6_seifert_46 : decode cX6_seifert 46 = .ok (.if_icmp .eq 27, 3) := by decide +kernel
theorem dX6_seifert_49 : decode cX6_seifert 49 = .ok (.iload 4, 2) := by decide +kernel
theorem dX6_seifert_51 : decode cX6_seifert 51 = .ok (.iload_n 3, 1) := by decide +kernel
theorem dX6_seifert_52 : decode cX6_seifert 52 = .ok (.if_icmp .ge 8, 3) := by decide +kernel
theorem dX6_seifert_55 : decode cX6_seifert 55 = .ok (.iload 4, 2) := by decide +kernel
theorem dX6_seifert_57 : decode cX6_seifert 57 = .ok (.goto 4, 3) := by decide +kernel
theorem dX6_seifert_60 : decode cX6_seifert 60 = .ok (.iload_n 3, 1) := by decide +kernel
theorem dX6_seifert_61 : decode cX6_seifert 61 = .ok (.istore_n 3, 1) := by decide +kernel
theorem dX6_seifert_62 : decode cX6_seifert 62 = .ok (.aload_n 0, 1) := by decide +kernel
theorem dX6_seifert_63 : decode cX6_seifert 63 = .ok (.iload 4, 2) := by decide +kernel
theorem dX6_seifert_65 : decode cX6_seifert 65 = .ok (.invokevirtual 143, 3) := by decide +kernel
theorem dX6_seifert_68 : decode cX6_seifert 68 = .ok (.istore 4, 2) := by decide +kernel
theorem dX6_seifert_70 : decode cX6_seifert 70 = .ok (.goto (-32), 3) := by decide +kernel
theorem dX6_seifert_73 : decode cX6_seifert 73 = .ok (.iload_n 1, 1) := by decide +kernel
theorem dX6_seifert_74 : decode cX6_seifert 74 = .ok (.iload_n 3, 1) := by decide +kernel
theorem dX6_seifert_75 : decode cX6_seifert 75 = .ok (.aload_n 0, 1) := by decide +kernel
theorem dX6_seifert_76 : decode cX6_seifert 76 = .ok (.getfield 32, 3) := by decide +kernel
theorem dX6_seifert_79 : decode cX6_seifert 79 = .ok (.iload_n 2, 1) := by decide +kernel
theorem dX6_seifert_80 : decode cX6_seifert 80 = .ok (.iaload, 1) := by decide +kernel
theorem dX6_seifert_81 : decode cX6_seifert 81 = .ok (.if_icmp .ne 7, 3) := by decide +kernel
theorem dX6_seifert_84 : decode cX6_seifert 84 = .ok (.iconst 1, 1) := by decide +kernel
theorem dX6_seifert_85 : decode cX6_seifert 85 = .ok (.goto 4, 3) := by decide +kernel
theorem dX6_seifert_88 : decode cX6_seifert 88 = .ok (.iconst 0, 1) := by decide +kernel
theorem dX6_seifert_89 : decode cX6_seifert 89 = .ok (.iadd, 1) := by decide +kernel
theorem dX6_seifert_90 : decode cX6_seifert 90 = .ok (.istore_n 1, 1) := by decide +kernel
theorem dX6_seifert_91 : decode cX6_seifert 91 = .ok (.iinc 2 1, 3) := by decide +kernel
theorem dX6_seifert_94 : decode cX6_seifert 94 = .ok (.goto (-83), 3) := by decide +kernel
theorem dX6_seifert_97 : decode cX6_seifert 97 = .ok (.iload_n 1, 1) := by decide +kernel
theorem dX6_seifert_98 : decode cX6_seifert 98 = .ok (.ireturn, 1) := by decide +kernel
set_option maxRecDepth 20000 in
theorem ggX6_isAlternating_X6_isOut : GoodIn wsX6_isAlternating wsX6_isOut := goodIn_r _ [7, 8, 16, 17, 18, 19, 20, 21, 22, 23, 24, 25, 26, 27, 28, 29, 30, 31, 32, 33, 34, 35, 36, 37, 38] (by decide +kernel) (by decide +kernel)
set_option maxRecDepth 20000 in
theorem gX6_isAlternating_X6_isOut : GoodIn wsX6_isAlternating (wsV RX6 60 RX6 yX6_isOut wsX6_isOut) := goodIn_app (goodIn_of _ (by decide +kernel)) ggX6_isAlternating_X6_isOut
set_option maxRecDepth 20000 in
theorem ggX6_isAlternating_X6_isUpper : GoodIn wsX6_isAlternating wsX6_isUpper := goodIn_r _ [11] (by decide +kernel) (by decide +kernel)
set_option maxRecDepth 20000 in
theorem gX6_isAlternating_X6_isUpper : GoodIn wsX6_isAlternating (va_wsS RX6 134 yX6_isUpper wsX6_isUpper) := goodIn_app (goodIn_of _ (by decide +kernel)) ggX6_isAlternating_X6_isUpper
set_option maxRecDepth 20000 in
theorem ggX6_isAlternating_X6_placeOf : GoodIn wsX6_isAlternating wsX6_placeOf := goodIn_r _ [15, 1, 2, 3, 4, 5, 6, 7, 8, 16, 17, 18, 19, 20, 21, 22, 23, 24, 25, 26, 27, 28, 29, 30, 31, 32, 33, 34, 35, 36, 37, 38] (by decide +kernel) (by decide +kernel)
set_option maxRecDepth 20000 in
theorem gX6_isAlternating_X6_placeOf : GoodIn wsX6_isAlternating (wsV RX6 64 RX6 yX6_placeOf wsX6_placeOf) := goodIn_app (goodIn_of _ (by decide +kernel)) ggX6_isAlternating_X6_placeOf
theorem dX6_isAlternating_0 : decode cX6_isAlternating 0 = .ok (.iconst 1, 1) := by decide +kernel
theorem dX6_isAlternating_1 : decode cX6_isAlternating 1 = .ok (.istore_n 1, 1) := by decide +kernel
theorem dX6_isAlternating_2 : decode cX6_isAlternating 2 = .ok (.iconst 0, 1) := by decide +kernel
theorem dX6_isAlternating_3 : decode cX6_isAlternating 3 = .ok (.istore_n 2, 1) := by decide +kernel
theorem dX6_isAlternating_4 : decode cX6_isAlternating 4 = .ok (.iload_n 2, 1) := by decide +kernel
theorem dX6_isAlternating_5 : decode cX6_isAlternating 5 = .ok (.iconst 4, 1) := by decide +kernel
theorem dX6_isAlternating_6 : decode cX6_isAlternating 6 = .ok (.aload_n 0, 1) := by decide +kernel
theorem dX6_isAlternating_7 : decode cX6_isAlternating 7 = .ok (.getfield 57, 3) := by decide +kernel
theorem dX6_isAlternating_10 : decode cX6_isAlternating 10 = .ok (.imul, 1) := by decide +kernel
theorem dX6_isAlternating_11 : decode cX6_isAlternating 11 = .ok (.if_icmp .ge 48, 3) := by decide +kernel
theorem dX6_isAlternating_14 : decode cX6_isAlternating 14 = .ok (.iload_n 1, 1) := by decide +kernel
theorem dX6_isAlternating_15 : decode cX6_isAlternating 15 = .ok (.ifCond .eq 36, 3) := by decide +kernel
theorem dX6_isAlternating_18 : decode cX6_isAlternating 18 = .ok (.aload_n 0, 1) := by decide +kernel
theorem dX6_isAlternating_19 : decode cX6_isAlternating 19 = .ok (.iload_n 2, 1) := by decide +kernel
theorem dX6_isAlternating_20 : decode cX6_isAlternating 20 = .ok (.invokevirtual 60, 3) := by decide +kernel
theorem dX6_isAlternating_23 : decode cX6_isAlternating 23 = .ok (.ifCond .eq 24, 3) := by decide +kernel
theorem dX6_isAlternating_26 : decode cX6_isAlternating 26 = .ok (.iload_n 2, 1) := by decide +kernel
theorem dX6_isAlternating_27 : decode cX6_isAlternating 27 = .ok (.invokestatic 134, 3) := by decide +kernel
theorem dX6_isAlternating_30 : decode cX6_isAlternating 30 = .ok (.aload_n 0, 1) := by decide +kernel
theorem dX6_isAlternating_31 : decode cX6_isAlternating 31 = .ok (.aload_n 0, 1) := by decide +kernel
theorem dX6_isAlternating_32 : decode cX6_isAlternating 32 = .ok (.getfield 23, 3) := by decide +kernel
theorem dX6_isAlternating_35 : decode cX6_isAlternating 35 = .ok (.iload_n 2, 1) := by decide +kernel
theorem dX6_isAlternating_36 : decode cX6_isAlternating 36 = .ok (.iaload, 1) := by decide +kernel
theorem dX6_isAlternating_37 : decode cX6_isAlternating 37 = .ok (.iconst 0, 1) := by decide +kernel
theorem dX6_isAlternating_38 : decode cX6_isAlternating 38 = .ok (.invokevirtual 64, 3) := by decide +kernel
theorem dX6_isAlternating_41 : decode cX6_isAlternating 41 = .ok (.invokestatic 134, 3) := by decide +kernel
theorem dX6_isAlternating_44 : decode cX6_isAlternating 44 = .ok (.if_icmp .eq 7, 3) := by decide +kernel
theorem dX6_isAlternating_47 : decode cX6_isAlternating 47 = .ok (.iconst 1, 1) := by decide +kernel
theorem dX6_isAlternating_48 : decode cX6_isAlternating 48 = .ok (.goto 4, 3) := by decide +kernel
theorem dX6_isAlternating_51 : decode cX6_isAlternating 51 = .ok (.iconst 0, 1) := by decide +kernel
theorem dX6_isAlternating_52 : decode cX6_isAlternating 52 = .ok (.istore_n 1, 1) := by decide +kernel
theorem dX6_isAlternating_53 : decode cX6_isAlternating 53 = .ok (.iinc 2 1, 3) := by decide +kernel
theorem dX6_isAlternating_56 : decode cX6_isAlternating 56 = .ok (.goto (-52), 3) := by decide +kernel
theorem dX6_isAlternating_59 : decode cX6_isAlternating 59 = .ok (.iload_n 1, 1) := by decide +kernel
theorem dX6_isAlternating_60 : decode cX6_isAlternating 60 = .ok (.ireturn, 1) := by decide +kernel
set_option maxRecDepth 20000 in
theorem ggX6_many_X6_allComponents : GoodIn wsX6_many wsX6_allComponents := goodIn_r _ [8, 9, 2, 10, 11, 12, 7, 13, 14, 15, 16, 17, 18, 19, 20, 1, 21, 22, 23, 24, 25, 26, 27, 28, 29, 30, 31, 32, 33, 34, 35, 36, 37, 96, 97, 98, 99, 100, 101, 102, 103, 104, 105, 106, 107, 108, 109, 110, 111, 112, 113, 114, 115, 116, 117, 118] (by decide +kernel) (by decide +kernel)
set_option maxRecDepth 20000 in
theorem gX6_many_X6_allComponents : GoodIn wsX6_many (wsV RX6 146 RX6 yX6_allComponents wsX6_allComponents) := goodIn_app (goodIn_of _ (by decide +kernel)) ggX6_many_X6_allComponents
set_option maxRecDepth 20000 in
theorem ggX6_many_X6_pieces : GoodIn wsX6_many wsX6_pieces := goodIn_r _ [41, 1, 42, 43, 44, 45, 7, 46, 21, 96, 97, 98, 99, 100, 101, 102, 103, 104, 105, 106, 107, 108, 109, 110, 111, 112, 113, 114, 115, 116, 117, 118] (by decide +kernel) (by decide +kernel)
set_option maxRecDepth 20000 in
theorem gX6_many_X6_pieces : GoodIn wsX6_many (wsV RX6 149 RX6 yX6_pieces wsX6_pieces) := goodIn_app (goodIn_of _ (by decide +kernel)) ggX6_many_X6_pieces
set_option maxRecDepth 20000 in
theorem ggX6_many_X6_signs : GoodIn wsX6_many wsX6_signs := goodIn_r _ [50, 1, 30, 96, 97, 98, 99, 100, 101, 102, 103, 104, 105, 106, 107, 108, 109, 110, 111, 112, 113, 114, 115, 116, 117, 118] (by decide +kernel) (by decide +kernel)
set_option maxRecDepth 20000 in
theorem gX6_many_X6_signs : GoodIn wsX6_many (wsV RX6 152 RX6 yX6_signs wsX6_signs) := goodIn_app (goodIn_of _ (by decide +kernel)) ggX6_many_X6_signs
set_option maxRecDepth 20000 in
theorem ggX6_many_X6_allFaces : GoodIn wsX6_many wsX6_allFaces := goodIn_r _ [54, 55, 56, 57, 58, 7, 59, 60, 15, 16, 17, 18, 19, 20, 1, 21, 61, 62, 63, 64, 65, 66, 67, 68, 22, 23, 24, 25, 26, 27, 28, 29, 30, 96, 97, 98, 99, 100, 101, 102, 103, 104, 105, 106, 107, 108, 109, 110, 111, 112, 113, 114, 115, 116, 117, 118] (by decide +kernel) (by decide +kernel)
set_option maxRecDepth 20000 in
theorem gX6_many_X6_allFaces : GoodIn wsX6_many (wsV RX6 155 RX6 yX6_allFaces wsX6_allFaces) := goodIn_app (goodIn_of _ (by decide +kernel)) ggX6_many_X6_allFaces
set_option maxRecDepth 20000 in
theorem ggX6_many_X6_arcs : GoodIn wsX6_many wsX6_arcs := goodIn_r _ [72, 2, 15, 16, 17, 18, 19, 7, 20, 1, 21, 73, 74, 75, 76, 22, 23, 24, 25, 26, 27, 28, 29, 30, 77, 78, 79, 35, 36, 37, 31, 32, 33, 34, 96, 97, 98, 99, 100, 101, 102, 103, 104, 105, 106, 107, 108, 109, 110, 111, 112, 113, 114, 115, 116, 117, 118] (by decide +kernel) (by decide +kernel)
set_option maxRecDepth 20000 in
theorem gX6_many_X6_arcs : GoodIn wsX6_many (wsV RX6 158 RX6 yX6_arcs wsX6_arcs) := goodIn_app (goodIn_of _ (by decide +kernel)) ggX6_many_X6_arcs
set_option maxRecDepth 20000 in
theorem ggX6_many_X6_seifert : GoodIn wsX6_many wsX6_seifert := goodIn_r _ [83, 2, 15, 16, 17, 18, 19, 7, 20, 1, 21, 84, 85, 86, 87, 22, 23, 24, 25, 26, 27, 28, 29, 30, 77, 78, 79, 88, 89, 90, 91, 96, 97, 98, 99, 100, 101, 102, 103, 104, 105, 106, 107, 108, 109, 110, 111, 112, 113, 114, 115, 116, 117, 118] (by decide +kernel) (by decide +kernel)
set_option maxRecDepth 20000 in
theorem gX6_many_X6_seifert : GoodIn wsX6_many (wsV RX6 161 RX6 yX6_seifert wsX6_seifert) := goodIn_app (goodIn_of _ (by decide +kernel)) ggX6_many_X6_seifert
set_option maxRecDepth 20000 in
theorem ggX6_many_X6_isAlternating : GoodIn wsX6_many wsX6_isAlternating := goodIn_r _ [95, 1, 21, 26, 27, 28, 7, 29, 30, 77, 78, 79, 22, 23, 24, 25, 96, 97, 98, 99, 100, 101, 102, 103, 104, 105, 106, 107, 108, 109, 110, 111, 112, 113, 114, 115, 116, 117, 118] (by decide +kernel) (by decide +kernel)
set_option maxRecDepth 20000 in
theorem gX6_many_X6_isAlternating : GoodIn wsX6_many (wsV RX6 164 RX6 yX6_isAlternating wsX6_isAlternating) := goodIn_app (goodIn_of _ (by decide +kernel)) ggX6_many_X6_isAlternating
theorem dX6_many_0 : decode cX6_many 0 = .ok (.iload_n 1, 1) := by decide +kernel
theorem dX6_many_1 : decode cX6_many 1 = .ok (.tableswitch 129 0 10 #[59, 64, 71, 76, 86, 91, 96, 101, 106, 111, 124], 59) := by decide +kernel
theorem dX6_many_60 : decode cX6_many 60 = .ok (.aload_n 0, 1) := by decide +kernel
theorem dX6_many_61 : decode cX6_many 61 = .ok (.getfield 57, 3) := by decide +kernel
theorem dX6_many_64 : decode cX6_many 64 = .ok (.ireturn, 1) := by decide +kernel
theorem dX6_many_65 : decode cX6_many 65 = .ok (.iconst 2, 1) := by decide +kernel
theorem dX6_many_66 : decode cX6_many 66 = .ok (.aload_n 0, 1) := by decide +kernel
theorem dX6_many_67 : decode cX6_many 67 = .ok (.getfield 57, 3) := by decide +kernel
theorem dX6_many_70 : decode cX6_many 70 = .ok (.imul, 1) := by decide +kernel
theorem dX6_many_71 : decode cX6_many 71 = .ok (.ireturn, 1) := by decide +kernel
theorem dX6_many_72 : decode cX6_many 72 = .ok (.aload_n 0, 1) := by decide +kernel
theorem dX6_many_73 : decode cX6_many 73 = .ok (.invokevirtual 146, 3) := by decide +kernel
theorem dX6_many_76 : decode cX6_many 76 = .ok (.ireturn, 1) := by decide +kernel
theorem dX6_many_77 : decode cX6_many 77 = .ok (.aload_n 0, 1) := by decide +kernel
theorem dX6_many_78 : decode cX6_many 78 = .ok (.invokevirtual 149, 3) := by decide +kernel
theorem dX6_many_81 : decode cX6_many 81 = .ok (.aload_n 0, 1) := by decide +kernel
theorem dX6_many_82 : decode cX6_many 82 = .ok (.getfield 105, 3) := by decide +kernel
theorem dX6_many_85 : decode cX6_many 85 = .ok (.iadd, 1) := by decide +kernel
theorem dX6_many_86 : decode cX6_many 86 = .ok (.ireturn, 1) := by decide +kernel
theorem dX6_many_87 : decode cX6_many 87 = .ok (.aload_n 0, 1) := by decide +kernel
theorem dX6_many_88 : decode cX6_many 88 = .ok (.getfield 105, 3) := by decide +kernel
theorem dX6_many_91 : decode cX6_many 91 = .ok (.ireturn, 1) := by decide +kernel
theorem dX6_many_92 : decode cX6_many 92 = .ok (.aload_n 0, 1) := by decide +kernel
theorem dX6_many_93 : decode cX6_many 93 = .ok (.invokevirtual 152, 3) := by decide +kernel
theorem dX6_many_96 : decode cX6_many 96 = .ok (.ireturn, 1) := by decide +kernel
theorem dX6_many_97 : decode cX6_many 97 = .ok (.aload_n 0, 1) := by decide +kernel
theorem dX6_many_98 : decode cX6_many 98 = .ok (.invokevirtual 155, 3) := by decide +kernel
theorem dX6_many_101 : decode cX6_many 101 = .ok (.ireturn, 1) := by decide +kernel
theorem dX6_many_102 : decode cX6_many 102 = .ok (.aload_n 0, 1) := by decide +kernel
theorem dX6_many_103 : decode cX6_many 103 = .ok (.invokevirtual 158, 3) := by decide +kernel
theorem dX6_many_106 : decode cX6_many 106 = .ok (.ireturn, 1) := by decide +kernel
theorem dX6_many_107 : decode cX6_many 107 = .ok (.aload_n 0, 1) := by decide +kernel
theorem dX6_many_108 : decode cX6_many 108 = .ok (.invokevirtual 161, 3) := by decide +kernel
theorem dX6_many_111 : decode cX6_many 111 = .ok (.ireturn, 1) := by decide +kernel
theorem dX6_many_112 : decode cX6_many 112 = .ok (.aload_n 0, 1) := by decide +kernel
theorem dX6_many_113 : decode cX6_many 113 = .ok (.invokevirtual 164, 3) := by decide +kernel
theorem dX6_many_116 : decode cX6_many 116 = .ok (.ifCond .eq 7, 3) := by decide +kernel
theorem dX6_many_119 : decode cX6_many 119 = .ok (.iconst 1, 1) := by decide +kernel
theorem dX6_many_120 : decode cX6_many 120 = .ok (.goto 4, 3) := by decide +kernel
theorem dX6_many_123 : decode cX6_many 123 = .ok (.iconst 0, 1) := by decide +kernel
theorem dX6_many_124 : decode cX6_many 124 = .ok (.ireturn, 1) := by decide +kernel
theorem dX6_many_125 : decode cX6_many 125 = .ok (.aload_n 0, 1) := by decide +kernel
theorem dX6_many_126 : decode cX6_many 126 = .ok (.getfield 99, 3) := by decide +kernel
theorem dX6_many_129 : decode cX6_many 129 = .ok (.ireturn, 1) := by decide +kernel
theorem dX6_many_130 : decode cX6_many 130 = .ok (.sipush (-1000), 3) := by decide +kernel
theorem dX6_many_133 : decode cX6_many 133 = .ok (.ireturn, 1) := by decide +kernel
set_option maxRecDepth 20000 in
theorem ggX6_look_X6_pieceOf : GoodIn wsX6_look wsX6_pieceOf := goodIn_r _ [8, 9, 10, 11, 12, 7, 13, 1, 2, 45, 46, 47, 48, 49, 50, 51, 52, 53, 54, 55, 56, 57, 58, 59, 60, 61, 62, 63, 64, 65, 66, 67] (by decide +kernel) (by decide +kernel)
set_option maxRecDepth 20000 in
theorem gX6_look_X6_pieceOf : GoodIn wsX6_look (wsV RX6 168 RX6 yX6_pieceOf wsX6_pieceOf) := goodIn_app (goodIn_of _ (by decide +kernel)) ggX6_look_X6_pieceOf
set_option maxRecDepth 20000 in
theorem ggX6_look_X6_componentOf : GoodIn wsX6_look wsX6_componentOf := goodIn_r _ [17, 18, 19, 20, 21, 7, 22, 23, 24, 25, 26, 27, 28, 29, 1, 2, 30, 31, 32, 33, 34, 35, 36, 37, 3, 38, 39, 40, 41, 42, 43, 44, 45, 46, 47, 48, 49, 50, 51, 52, 53, 54, 55, 56, 57, 58, 59, 60, 61, 62, 63, 64, 65, 66, 67] (by decide +kernel) (by decide +kernel)
set_option maxRecDepth 20000 in
theorem gX6_look_X6_componentOf : GoodIn wsX6_look (wsV RX6 171 RX6 yX6_componentOf wsX6_componentOf) := goodIn_app (goodIn_of _ (by decide +kernel)) ggX6_look_X6_componentOf
theorem dX6_look_0 : decode cX6_look 0 = .ok (.iload_n 1, 1) := by decide +kernel
theorem dX6_look_1 : decode cX6_look 1 = .ok (.ifCond .lt 21, 3) := by decide +kernel
theorem dX6_look_4 : decode cX6_look 4 = .ok (.iload_n 1, 1) := by decide +kernel
theorem dX6_look_5 : decode cX6_look 5 = .ok (.aload_n 0, 1) := by decide +kernel
theorem dX6_look_6 : decode cX6_look 6 = .ok (.getfield 57, 3) := by decide +kernel
theorem dX6_look_9 : decode cX6_look 9 = .ok (.if_icmp .ge 13, 3) := by decide +kernel
theorem dX6_look_12 : decode cX6_look 12 = .ok (.iload_n 2, 1) := by decide +kernel
theorem dX6_look_13 : decode cX6_look 13 = .ok (.ifCond .lt 9, 3) := by decide +kernel
theorem dX6_look_16 : decode cX6_look 16 = .ok (.iload_n 2, 1) := by decide +kernel
theorem dX6_look_17 : decode cX6_look 17 = .ok (.bipush 7, 2) := by decide +kernel
theorem dX6_look_19 : decode cX6_look 19 = .ok (.if_icmp .le 7, 3) := by decide +kernel
theorem dX6_look_22 : decode cX6_look 22 = .ok (.sipush (-1000), 3) := by decide +kernel
theorem dX6_look_25 : decode cX6_look 25 = .ok (.ireturn, 1) := by decide +kernel
theorem dX6_look_26 : decode cX6_look 26 = .ok (.iload_n 2, 1) := by decide +kernel
theorem dX6_look_27 : decode cX6_look 27 = .ok (.iconst 4, 1) := by decide +kernel
theorem dX6_look_28 : decode cX6_look 28 = .ok (.if_icmp .ge 14, 3) := by decide +kernel
theorem dX6_look_31 : decode cX6_look 31 = .ok (.aload_n 0, 1) := by decide +kernel
theorem dX6_look_32 : decode cX6_look 32 = .ok (.getfield 23, 3) := by decide +kernel
theorem dX6_look_35 : decode cX6_look 35 = .ok (.iconst 4, 1) := by decide +kernel
theorem dX6_look_36 : decode cX6_look 36 = .ok (.iload_n 1, 1) := by decide +kernel
theorem dX6_look_37 : decode cX6_look 37 = .ok (.imul, 1) := by decide +kernel
theorem dX6_look_38 : decode cX6_look 38 = .ok (.iload_n 2, 1) := by decide +kernel
theorem dX6_look_39 : decode cX6_look 39 = .ok (.iadd, 1) := by decide +kernel
theorem dX6_look_40 : decode cX6_look 40 = .ok (.iaload, 1) := by decide +kernel
theorem dX6_look_41 : decode cX6_look 41 = .ok (.ireturn, 1) := by decide +kernel
theorem dX6_look_42 : decode cX6_look 42 = .ok (.iload_n 2, 1) := by decide +kernel
theorem dX6_look_43 : decode cX6_look 43 = .ok (.iconst 4, 1) := by decide +kernel
theorem dX6_look_44 : decode cX6_look 44 = .ok (.if_icmp .ne 12, 3) := by decide +kernel
theorem dX6_look_47 : decode cX6_look 47 = .ok (.aload_n 0, 1) := by decide +kernel
theorem dX6_look_48 : decode cX6_look 48 = .ok (.getfield 20, 3) := by decide +kernel
theorem dX6_look_51 : decode cX6_look 51 = .ok (.iload_n 1, 1) := by decide +kernel
theorem dX6_look_52 : decode cX6_look 52 = .ok (.iaload, 1) := by decide +kernel
theorem dX6_look_53 : decode cX6_look 53 = .ok (.goto 40, 3) := by decide +kernel
theorem dX6_look_56 : decode cX6_look 56 = .ok (.iload_n 2, 1) := by decide +kernel
theorem dX6_look_57 : decode cX6_look 57 = .ok (.iconst 5, 1) := by decide +kernel
theorem dX6_look_58 : decode cX6_look 58 = .ok (.if_icmp .ne 11, 3) := by decide +kernel
theorem dX6_look_61 : decode cX6_look 61 = .ok (.aload_n 0, 1) := by decide +kernel
theorem dX6_look_62 : decode cX6_look 62 = .ok (.iload_n 1, 1) := by decide +kernel
theorem dX6_look_63 : decode cX6_look 63 = .ok (.invokevirtual 168, 3) := by decide +kernel
theorem dX6_look_66 : decode cX6_look 66 = .ok (.goto 27, 3) := by decide +kernel
theorem dX6_look_69 : decode cX6_look 69 = .ok (.aload_n 0, 1) := by decide +kernel
theorem dX6_look_70 : decode cX6_look 70 = .ok (.aload_n 0, 1) := by decide +kernel
theorem dX6_look_71 : decode cX6_look 71 = .ok (.getfield 23, 3) := by decide +kernel
theorem dX6_look_74 : decode cX6_look 74 = .ok (.iconst 4, 1) := by decide +kernel
theorem dX6_look_75 : decode cX6_look 75 = .ok (.iload_n 1, 1) := by decide +kernel
theorem dX6_look_76 : decode cX6_look 76 = .ok (.imul, 1) := by decide +kernel
theorem dX6_look_77 : decode cX6_look 77 = .ok (.iload_n 2, 1) := by decide +kernel
theorem dX6_look_78 : decode cX6_look 78 = .ok (.bipush 6, 2) := by decide +kernel
theorem dX6_look_80 : decode cX6_look 80 = .ok (.if_icmp .ne 7, 3) := by decide +kernel
theorem dX6_look_83 : decode cX6_look 83 = .ok (.iconst 0, 1) := by decide +kernel
theorem dX6_look_84 : decode cX6_look 84 = .ok (.goto 4, 3) := by decide +kernel
theorem dX6_look_87 : decode cX6_look 87 = .ok (.iconst 1, 1) := by decide +kernel
theorem dX6_look_88 : decode cX6_look 88 = .ok (.iadd, 1) := by decide +kernel
theorem dX6_look_89 : decode cX6_look 89 = .ok (.iaload, 1) := by decide +kernel
theorem dX6_look_90 : decode cX6_look 90 = .ok (.invokevirtual 171, 3) := by decide +kernel
theorem dX6_look_93 : decode cX6_look 93 = .ok (.ireturn, 1) := by decide +kernel
set_option maxRecDepth 20000 in
theorem ggX6_edge_X6_placeOf : GoodIn wsX6_edge wsX6_placeOf := goodIn_r _ [5, 6, 7, 8, 9, 10, 4, 11, 12, 61, 62, 63, 64, 65, 66, 67, 68, 69, 70, 71, 72, 73, 74, 75, 76, 77, 78, 79, 80, 81, 82, 83] (by decide +kernel) (by decide +kernel)
set_option maxRecDepth 20000 in
theorem gX6_edge_X6_placeOf : GoodIn wsX6_edge (wsV RX6 64 RX6 yX6_placeOf wsX6_placeOf) := goodIn_app (goodIn_of _ (by decide +kernel)) ggX6_edge_X6_placeOf
set_option maxRecDepth 20000 in
theorem ggX6_edge_X6_next : GoodIn wsX6_edge wsX6_next := goodIn_r _ [16, 7, 1, 2, 3, 4, 5, 6, 8, 9, 10, 11, 12, 17, 18, 19, 61, 62, 63, 64, 65, 66, 67, 68, 69, 70, 71, 72, 73, 74, 75, 76, 77, 78, 79, 80, 81, 82, 83] (by decide +kernel) (by decide +kernel)
set_option maxRecDepth 20000 in
theorem gX6_edge_X6_next : GoodIn wsX6_edge (wsV RX6 81 RX6 yX6_next wsX6_next) := goodIn_app (goodIn_of _ (by decide +kernel)) ggX6_edge_X6_next
set_option maxRecDepth 20000 in
theorem ggX6_edge_X6_componentOf : GoodIn wsX6_edge wsX6_componentOf := goodIn_r _ [23, 24, 25, 26, 27, 4, 28, 29, 30, 31, 32, 33, 34, 35, 6, 7, 1, 2, 3, 5, 8, 9, 10, 11, 12, 13, 14, 15, 16, 17, 18, 19, 61, 62, 63, 64, 65, 66, 67, 68, 69, 70, 71, 72, 73, 74, 75, 76, 77, 78, 79, 80, 81, 82, 83] (by decide +kernel) (by decide +kernel)
set_option maxRecDepth 20000 in
theorem gX6_edge_X6_componentOf : GoodIn wsX6_edge (wsV RX6 171 RX6 yX6_componentOf wsX6_componentOf) := goodIn_app (goodIn_of _ (by decide +kernel)) ggX6_edge_X6_componentOf
set_option maxRecDepth 20000 in
theorem ggX6_edge_X6_faceAt : GoodIn wsX6_edge wsX6_faceAt := goodIn_r _ [39, 40, 41, 42, 43, 4, 44, 45, 30, 31, 32, 33, 34, 35, 6, 7, 46, 47, 48, 49, 50, 51, 52, 53, 1, 2, 3, 5, 8, 9, 10, 11, 12, 61, 62, 63, 64, 65, 66, 67, 68, 69, 70, 71, 72, 73, 74, 75, 76, 77, 78, 79, 80, 81, 82, 83] (by decide +kernel) (by decide +kernel)
set_option maxRecDepth 20000 in
theorem gX6_edge_X6_faceAt : GoodIn wsX6_edge (wsV RX6 174 RX6 yX6_faceAt wsX6_faceAt) := goodIn_app (goodIn_of _ (by decide +kernel)) ggX6_edge_X6_faceAt
set_option maxRecDepth 20000 in
theorem ggX6_edge_X6_arcOf : GoodIn wsX6_edge wsX6_arcOf := goodIn_r _ [57, 7, 1, 2, 3, 4, 5, 6, 8, 9, 10, 11, 12, 58, 59, 60, 17, 18, 19, 13, 14, 15, 16, 61, 62, 63, 64, 65, 66, 67, 68, 69, 70, 71, 72, 73, 74, 75, 76, 77, 78, 79, 80, 81, 82, 83] (by decide +kernel) (by decide +kernel)
set_option maxRecDepth 20000 in
theorem gX6_edge_X6_arcOf : GoodIn wsX6_edge (wsV RX6 137 RX6 yX6_arcOf wsX6_arcOf) := goodIn_app (goodIn_of _ (by decide +kernel)) ggX6_edge_X6_arcOf
theorem dX6_edge_0 : decode cX6_edge 0 = .ok (.iload_n 1, 1) := by decide +kernel
theorem dX6_edge_1 : decode cX6_edge 1 = .ok (.ifCond .le 12, 3) := by decide +kernel
theorem dX6_edge_4 : decode cX6_edge 4 = .ok (.aload_n 0, 1) := by decide +kernel
theorem dX6_edge_5 : decode cX6_edge 5 = .ok (.iload_n 1, 1) := by decide +kernel
theorem dX6_edge_6 : decode cX6_edge 6 = .ok (.iconst 1, 1) := by decide +kernel
theorem dX6_edge_7 : decode cX6_edge 7 = .ok (.invokevirtual 64, 3) := by decide +kernel
theorem dX6_edge_10 : decode cX6_edge 10 = .ok (.goto 4, 3) := by decide +kernel
theorem dX6_edge_13 : decode cX6_edge 13 = .ok (.iconst (-1), 1) := by decide +kernel
theorem dX6_edge_14 : decode cX6_edge 14 = .ok (.istore_n 3, 1) := by decide +kernel
theorem dX6_edge_15 : decode cX6_edge 15 = .ok (.iload_n 3, 1) := by decide +kernel
theorem dX6_edge_16 : decode cX6_edge 16 = .ok (.ifCond .lt 13, 3) := by decide +kernel
theorem dX6_edge_19 : decode cX6_edge 19 = .ok (.iload_n 2, 1) := by decide +kernel
theorem dX6_edge_20 : decode cX6_edge 20 = .ok (.ifCond .lt 9, 3) := by decide +kernel
theorem dX6_edge_23 : decode cX6_edge 23 = .ok (.iload_n 2, 1) := by decide +kernel
theorem dX6_edge_24 : decode cX6_edge 24 = .ok (.bipush 8, 2) := by decide +kernel
theorem dX6_edge_26 : decode cX6_edge 26 = .ok (.if_icmp .le 5, 3) := by decide +kernel
theorem dX6_edge_29 : decode cX6_edge 29 = .ok (.iconst (-1), 1) := by decide +kernel
theorem dX6_edge_30 : decode cX6_edge 30 = .ok (.ireturn, 1) := by decide +kernel
theorem dX6_edge_31 : decode cX6_edge 31 = .ok (.aload_n 0, 1) := by decide +kernel
theorem dX6_edge_32 : decode cX6_edge 32 = .ok (.iload_n 1, 1) := by decide +kernel
theorem dX6_edge_33 : decode cX6_edge 33 = .ok (.iconst 0, 1) := by decide +kernel
theorem dX6_edge_34 : decode cX6_edge 34 = .ok (.invokevirtual 64, 3) := by decide +kernel
theorem dX6_edge_37 : decode cX6_edge 37 = .ok (.istore 4, 2) := by decide +kernel
theorem dX6_edge_39 : decode cX6_edge 39 = .ok (.iload_n 2, 1) := by decide +kernel
theorem dX6_edge_40 : decode cX6_edge 40 = .ok (.tableswitch 92 0 7 #[48, 52, 56, 61, 66, 72, 78, 85], 48) := by decide +kernel
theorem dX6_edge_88 : decode cX6_edge 88 = .ok (.iload_n 3, 1) := by decide +kernel
theorem dX6_edge_89 : decode cX6_edge 89 = .ok (.iconst 4, 1) := by decide +kernel
theorem dX6_edge_90 : decode cX6_edge 90 = .ok (.idiv, 1) := by decide +kernel
theorem dX6_edge_91 : decode cX6_edge 91 = .ok (.ireturn, 1) := by decide +kernel
theorem dX6_edge_92 : decode cX6_edge 92 = .ok (.iload_n 3, 1) := by decide +kernel
theorem dX6_edge_93 : decode cX6_edge 93 = .ok (.iconst 4, 1) := by decide +kernel
theorem dX6_edge_94 : decode cX6_edge 94 = .ok (.irem, 1) := by decide +kernel
theorem dX6_edge_95 : decode cX6_edge 95 = .ok (.ireturn, 1) := by decide +kernel
theorem dX6_edge_96 : decode cX6_edge 96 = .ok (.iload 4, 2) := by decide +kernel
theorem dX6_edge_98 : decode cX6_edge 98 = .ok (.iconst 4, 1) := by decide +kernel
theorem dX6_edge_99 : decode cX6_edge 99 = .ok (.idiv, 1) := by decide +kernel
theorem dX6_edge_100 : decode cX6_edge 100 = .ok (.ireturn, 1) := by decide +kernel
theorem dX6_edge_101 : decode cX6_edge 101 = .ok (.iload 4, 2) := by decide +kernel
theorem dX6_edge_103 : decode cX6_edge 103 = .ok (.iconst 4, 1) := by decide +kernel
theorem dX6_edge_104 : decode cX6_edge 104 = .ok (.irem, 1) := by decide +kernel
theorem dX6_edge_105 : decode cX6_edge 105 = .ok (.ireturn, 1) := by decide +kernel
theorem dX6_edge_106 : decode cX6_edge 106 = .ok (.aload_n 0, 1) := by decide +kernel
theorem dX6_edge_107 : decode cX6_edge 107 = .ok (.iload_n 1, 1) := by decide +kernel
theorem dX6_edge_108 : decode cX6_edge 108 = .ok (.invokevirtual 81, 3) := by decide +kernel
theorem dX6_edge_111 : decode cX6_edge 111 = .ok (.ireturn, 1) := by decide +kernel
theorem dX6_edge_112 : decode cX6_edge 112 = .ok (.aload_n 0, 1) := by decide +kernel
theorem dX6_edge_113 : decode cX6_edge 113 = .ok (.iload_n 1, 1) := by decide +kernel
theorem dX6_edge_114 : decode cX6_edge 114 = .ok (.invokevirtual 171, 3) := by decide +kernel
theorem dX6_edge_117 : decode cX6_edge 117 = .ok (.ireturn, 1) := by decide +kernel
theorem dX6_edge_118 : decode cX6_edge 118 = .ok (.aload_n 0, 1) := by decide +kernel
theorem dX6_edge_119 : decode cX6_edge 119 = .ok (.iload_n 1, 1) := by decide +kernel
theorem dX6_edge_120 : decode cX6_edge 120 = .ok (.iconst 0, 1) := by decide +kernel
theorem dX6_edge_121 : decode cX6_edge 121 = .ok (.invokevirtual 174, 3) := by decide +kernel
theorem dX6_edge_124 : decode cX6_edge 124 = .ok (.ireturn, 1) := by decide +kernel
theorem dX6_edge_125 : decode cX6_edge 125 = .ok (.aload_n 0, 1) := by decide +kernel
theorem dX6_edge_126 : decode cX6_edge 126 = .ok (.iload_n 1, 1) := by decide +kernel
theorem dX6_edge_127 : decode cX6_edge 127 = .ok (.iconst 1, 1) := by decide +kernel
theorem dX6_edge_128 : decode cX6_edge 128 = .ok (.invokevirtual 174, 3) := by decide +kernel
theorem dX6_edge_131 : decode cX6_edge 131 = .ok (.ireturn, 1) := by decide +kernel
theorem dX6_edge_132 : decode cX6_edge 132 = .ok (.aload_n 0, 1) := by decide +kernel
theorem dX6_edge_133 : decode cX6_edge 133 = .ok (.iload_n 1, 1) := by decide +kernel
theorem dX6_edge_134 : decode cX6_edge 134 = .ok (.invokevirtual 137, 3) := by decide +kernel
theorem dX6_edge_137 : decode cX6_edge 137 = .ok (.ireturn, 1) := by decide +kernel
set_option maxRecDepth 20000 in
theorem ggX6_faceAt_X6_findFaces : GoodIn wsX6_faceAt wsX6_findFaces := goodIn_r _ [6, 1, 7, 8, 9, 10, 11, 12, 5, 13, 14, 15, 16, 17, 18, 19, 20, 21, 22, 23, 24, 25, 26, 27, 28, 29, 30, 31, 32, 33, 34, 35, 36, 37, 38, 39, 40, 41, 42, 43, 44, 45, 46, 47, 48, 49, 50, 51, 52, 53, 54, 55] (by decide +kernel) (by decide +kernel)
set_option maxRecDepth 20000 in
theorem gX6_faceAt_X6_findFaces : GoodIn wsX6_faceAt (wsV RX6 111 RX6 yX6_findFaces wsX6_findFaces) := goodIn_app (goodIn_of _ (by decide +kernel)) ggX6_faceAt_X6_findFaces
set_option maxRecDepth 20000 in
theorem ggX6_faceAt_X6_rowOf : GoodIn wsX6_faceAt wsX6_rowOf := goodIn_r _ [19, 9, 33, 34, 35, 36, 37, 38, 39, 40, 41, 42, 43, 44, 45, 46, 47, 48, 49, 50, 51, 52, 53, 54, 55] (by decide +kernel) (by decide +kernel)
set_option maxRecDepth 20000 in
theorem gX6_faceAt_X6_rowOf : GoodIn wsX6_faceAt (wsV RX6 93 RX6 yX6_rowOf wsX6_rowOf) := goodIn_app (goodIn_of _ (by decide +kernel)) ggX6_faceAt_X6_rowOf
theorem dX6_faceAt_0 : decode cX6_faceAt 0 = .ok (.aload_n 0, 1) := by decide +kernel
theorem dX6_faceAt_1 : decode cX6_faceAt 1 = .ok (.invokevirtual 111, 3) := by decide +kernel
theorem dX6_faceAt_4 : decode cX6_faceAt 4 = .ok (.aload_n 0, 1) := by decide +kernel
theorem dX6_faceAt_5 : decode cX6_faceAt 5 = .ok (.getfield 51, 3) := by decide +kernel
theorem dX6_faceAt_8 : decode cX6_faceAt 8 = .ok (.iconst 2, 1) := by decide +kernel
theorem dX6_faceAt_9 : decode cX6_faceAt 9 = .ok (.aload_n 0, 1) := by decide +kernel
theorem dX6_faceAt_10 : decode cX6_faceAt 10 = .ok (.iload_n 1, 1) := by decide +kernel
theorem dX6_faceAt_11 : decode cX6_faceAt 11 = .ok (.invokevirtual 93, 3) := by decide +kernel
theorem dX6_faceAt_14 : decode cX6_faceAt 14 = .ok (.imul, 1) := by decide +kernel
theorem dX6_faceAt_15 : decode cX6_faceAt 15 = .ok (.iload_n 2, 1) := by decide +kernel
theorem dX6_faceAt_16 : decode cX6_faceAt 16 = .ok (.iadd, 1) := by decide +kernel
theorem dX6_faceAt_17 : decode cX6_faceAt 17 = .ok (.iaload, 1) := by decide +kernel
theorem dX6_faceAt_18 : decode cX6_faceAt 18 = .ok (.ireturn, 1) := by decide +kernel
set_option maxRecDepth 20000 in
theorem ggX6_allFaces_X6_findFaces : GoodIn wsX6_allFaces wsX6_findFaces := goodIn_r _ [6, 7, 1, 8, 9, 10, 11, 12, 5, 13, 14, 15, 16, 17, 18, 19, 20, 21, 22, 23, 24, 25, 26, 27, 28, 29, 30, 31, 32, 33, 34, 35, 36, 37, 38, 39, 40, 41, 42, 43, 44, 45, 46, 47, 48, 49, 50, 51, 52, 53, 54, 55] (by decide +kernel) (by decide +kernel)
set_option maxRecDepth 20000 in
theorem gX6_allFaces_X6_findFaces : GoodIn wsX6_allFaces (wsV RX6 111 RX6 yX6_findFaces wsX6_findFaces) := goodIn_app (goodIn_of _ (by decide +kernel)) ggX6_allFaces_X6_findFaces
theorem dX6_allFaces_0 : decode cX6_allFaces 0 = .ok (.aload_n 0, 1) := by decide +kernel
theorem dX6_allFaces_1 : decode cX6_allFaces 1 = .ok (.invokevirtual 111, 3) := by decide +kernel
theorem dX6_allFaces_4 : decode cX6_allFaces 4 = .ok (.aload_n 0, 1) := by decide +kernel
theorem dX6_allFaces_5 : decode cX6_allFaces 5 = .ok (.getfield 90, 3) := by decide +kernel
theorem dX6_allFaces_8 : decode cX6_allFaces 8 = .ok (.ireturn, 1) := by decide +kernel
set_option maxRecDepth 20000 in
theorem ggX6_allComponents_X6_components : GoodIn wsX6_allComponents wsX6_components := goodIn_r _ [7, 8, 1, 9, 10, 11, 12, 13, 6, 14, 15, 16, 17, 18, 19, 20, 21, 22, 23, 24, 25, 26, 27, 28, 29, 30, 31, 32, 33, 34, 35, 36, 37, 38, 39, 40, 41, 42, 43, 44, 45, 46, 47, 48, 49, 50, 51, 52, 53, 54, 55] (by decide +kernel) (by decide +kernel)
set_option maxRecDepth 20000 in
theorem gX6_allComponents_X6_components : GoodIn wsX6_allComponents (wsV RX6 84 RX6 yX6_components wsX6_components) := goodIn_app (goodIn_of _ (by decide +kernel)) ggX6_allComponents_X6_components
theorem dX6_allComponents_0 : decode cX6_allComponents 0 = .ok (.aload_n 0, 1) := by decide +kernel
theorem dX6_allComponents_1 : decode cX6_allComponents 1 = .ok (.invokevirtual 84, 3) := by decide +kernel
theorem dX6_allComponents_4 : decode cX6_allComponents 4 = .ok (.aload_n 0, 1) := by decide +kernel
theorem dX6_allComponents_5 : decode cX6_allComponents 5 = .ok (.getfield 75, 3) := by decide +kernel
theorem dX6_allComponents_8 : decode cX6_allComponents 8 = .ok (.aload_n 0, 1) := by decide +kernel
theorem dX6_allComponents_9 : decode cX6_allComponents 9 = .ok (.getfield 105, 3) := by decide +kernel
theorem dX6_allComponents_12 : decode cX6_allComponents 12 = .ok (.iadd, 1) := by decide +kernel
theorem dX6_allComponents_13 : decode cX6_allComponents 13 = .ok (.ireturn, 1) := by decide +kernel
theorem dX6_together_0 : decode cX6_together 0 = .ok (.iconst 0, 1) := by decide +kernel
theorem dX6_together_1 : decode cX6_together 1 = .ok (.istore_n 3, 1) := by decide +kernel
theorem dX6_together_2 : decode cX6_together 2 = .ok (.iconst 0, 1) := by decide +kernel
theorem dX6_together_3 : decode cX6_together 3 = .ok (.istore 4, 2) := by decide +kernel
theorem dX6_together_5 : decode cX6_together 5 = .ok (.iload 4, 2) := by decide +kernel
theorem dX6_together_7 : decode cX6_together 7 = .ok (.aload_n 0, 1) := by decide +kernel
theorem dX6_together_8 : decode cX6_together 8 = .ok (.getfield 57, 3) := by decide +kernel
theorem dX6_together_11 : decode cX6_together 11 = .ok (.if_icmp .ge 71, 3) := by decide +kernel
theorem dX6_together_14 : decode cX6_together 14 = .ok (.aload_n 0, 1) := by decide +kernel
theorem dX6_together_15 : decode cX6_together 15 = .ok (.getfield 48, 3) := by decide +kernel
theorem dX6_together_18 : decode cX6_together 18 = .ok (.iconst 4, 1) := by decide +kernel
theorem dX6_together_19 : decode cX6_together 19 = .ok (.iload 4, 2) := by decide +kernel
theorem dX6_together_21 : decode cX6_together 21 = .ok (.imul, 1) := by decide +kernel
theorem dX6_together_22 : decode cX6_together 22 = .ok (.iaload, 1) := by decide +kernel
theorem dX6_together_23 : decode cX6_together 23 = .ok (.istore 5, 2) := by decide +kernel
theorem dX6_together_25 : decode cX6_together 25 = .ok (.aload_n 0, 1) := by decide +kernel
theorem dX6_together_26 : decode cX6_together 26 = .ok (.getfield 48, 3) := by decide +kernel
theorem dX6_together_29 : decode cX6_together 29 = .ok (.iconst 4, 1) := by decide +kernel
theorem dX6_together_30 : decode cX6_together 30 = .ok (.iload 4, 2) := by decide +kernel
theorem dX6_together_32 : decode cX6_together 32 = .ok (.imul, 1) := by decide +kernel
theorem dX6_together_33 : decode cX6_together 33 = .ok (.iconst 1, 1) := by decide +kernel
theorem dX6_together_34 : decode cX6_together 34 = .ok (.iadd, 1) := by decide +kernel
theorem dX6_together_35 : decode cX6_together 35 = .ok (.iaload, 1) := by decide +kernel
theorem dX6_together_36 : decode cX6_together 36 = .ok (.istore 6, 2) := by decide +kernel
theorem dX6_together_38 : decode cX6_together 38 = .ok (.iload_n 3, 1) := by decide +kernel
theorem dX6_together_39 : decode cX6_together 39 = .ok (.iload 5, 2) := by decide +kernel
theorem dX6_together_41 : decode cX6_together 41 = .ok (.iload_n 1, 1) := by decide +kernel
theorem dX6_together_42 : decode cX6_together 42 = .ok (.if_icmp .ne 9, 3) := by decide +kernel
theorem dX6_together_45 : decode cX6_together 45 = .ok (.iload 6, 2) := by decide +kernel
theorem dX6_together_47 : decode cX6_together 47 = .ok (.iload_n 2, 1) := by decide +kernel
theorem dX6_together_48 : decode cX6_together 48 = .ok (.if_icmp .eq 15, 3) := by decide +kernel
theorem dX6_together_51 : decode cX6_together 51 = .ok (.iload 5, 2) := by decide +kernel
theorem dX6_together_53 : decode cX6_together 53 = .ok (.iload_n 2, 1) := by decide +kernel
theorem dX6_together_54 : decode cX6_together 54 = .ok (.if_icmp .ne 19, 3) := by decide +kernel
theorem dX6_together_57 : decode cX6_together 57 = .ok (.iload 6, 2) := by decide +kernel
theorem dX6_together_59 : decode cX6_together 59 = .ok (.iload_n 1, 1) := by decide +kernel
theorem dX6_together_60 : decode cX6_together 60 = .ok (.if_icmp .ne 13, 3) := by decide +kernel
theorem dX6_together_63 : decode cX6_together 63 = .ok (.aload_n 0, 1) := by decide +kernel
theorem dX6_together_64 : decode cX6_together 64 = .ok (.getfield 20, 3) := by decide +kernel
theorem dX6_together_67 : decode cX6_together 67 = .ok (.iload 4, 2) := by decide +kernel
theorem dX6_together_69 : decode cX6_together 69 = .ok (.iaload, 1) := by decide +kernel
theorem dX6_together_70 : decode cX6_together 70 = .ok (.goto 4, 3) := by decide +kernel
theorem dX6_together_73 : decode cX6_together 73 = .ok (.iconst 0, 1) := by decide +kernel
theorem dX6_together_74 : decode cX6_together 74 = .ok (.iadd, 1) := by decide +kernel
theorem dX6_together_75 : decode cX6_together 75 = .ok (.istore_n 3, 1) := by decide +kernel
theorem dX6_together_76 : decode cX6_together 76 = .ok (.iinc 4 1, 3) := by decide +kernel
theorem dX6_together_79 : decode cX6_together 79 = .ok (.goto (-74), 3) := by decide +kernel
theorem dX6_together_82 : decode cX6_together 82 = .ok (.iload_n 3, 1) := by decide +kernel
theorem dX6_together_83 : decode cX6_together 83 = .ok (.ireturn, 1) := by decide +kernel
set_option maxRecDepth 20000 in
theorem ggX6_edgesOf_X6_next : GoodIn wsX6_edgesOf wsX6_next := goodIn_r _ [5, 6, 7, 8, 9, 4, 10, 11, 12, 13, 14, 15, 16, 17, 18, 19, 20, 21, 22, 23, 24, 25, 26, 27, 28, 29, 30, 31, 32, 33, 34, 35, 36, 37, 38, 39, 40, 41, 42] (by decide +kernel) (by decide +kernel)
set_option maxRecDepth 20000 in
theorem gX6_edgesOf_X6_next : GoodIn wsX6_edgesOf (wsV RX6 81 RX6 yX6_next wsX6_next) := goodIn_app (goodIn_of _ (by decide +kernel)) ggX6_edgesOf_X6_next
theorem dX6_edgesOf_0 : decode cX6_edgesOf 0 = .ok (.iconst 1, 1) := by decide +kernel
theorem dX6_edgesOf_1 : decode cX6_edgesOf 1 = .ok (.istore_n 2, 1) := by decide +kernel
theorem dX6_edgesOf_2 : decode cX6_edgesOf 2 = .ok (.aload_n 0, 1) := by decide +kernel
theorem dX6_edgesOf_3 : decode cX6_edgesOf 3 = .ok (.iload_n 1, 1) := by decide +kernel
theorem dX6_edgesOf_4 : decode cX6_edgesOf 4 = .ok (.invokevirtual 81, 3) := by decide +kernel
theorem dX6_edgesOf_7 : decode cX6_edgesOf 7 = .ok (.istore_n 3, 1) := by decide +kernel
theorem dX6_edgesOf_8 : decode cX6_edgesOf 8 = .ok (.iload_n 3, 1) := by decide +kernel
theorem dX6_edgesOf_9 : decode cX6_edgesOf 9 = .ok (.iload_n 1, 1) := by decide +kernel
theorem dX6_edgesOf_10 : decode cX6_edgesOf 10 = .ok (.if_icmp .eq 15, 3) := by decide +kernel
theorem dX6_edgesOf_13 : decode cX6_edgesOf 13 = .ok (.iinc 2 1, 3) := by decide +kernel
theorem dX6_edgesOf_16 : decode cX6_edgesOf 16 = .ok (.aload_n 0, 1) := by decide +kernel
theorem dX6_edgesOf_17 : decode cX6_edgesOf 17 = .ok (.iload_n 3, 1) := by decide +kernel
theorem dX6_edgesOf_18 : decode cX6_edgesOf 18 = .ok (.invokevirtual 81, 3) := by decide +kernel
theorem dX6_edgesOf_21 : decode cX6_edgesOf 21 = .ok (.istore_n 3, 1) := by decide +kernel
theorem dX6_edgesOf_22 : decode cX6_edgesOf 22 = .ok (.goto (-14), 3) := by decide +kernel
theorem dX6_edgesOf_25 : decode cX6_edgesOf 25 = .ok (.iload_n 2, 1) := by decide +kernel
theorem dX6_edgesOf_26 : decode cX6_edgesOf 26 = .ok (.ireturn, 1) := by decide +kernel
set_option maxRecDepth 20000 in
theorem ggX6_component_X6_components : GoodIn wsX6_component wsX6_components := goodIn_r _ [7, 8, 1, 9, 10, 11, 12, 13, 6, 14, 15, 16, 17, 18, 19, 20, 21, 22, 23, 24, 25, 26, 27, 28, 29, 30, 31, 32, 58, 59, 60, 61, 62, 63, 64, 65, 66, 67, 68, 69, 70, 71, 72, 73, 74, 75, 76, 77, 78, 79, 80] (by decide +kernel) (by decide +kernel)
set_option maxRecDepth 20000 in
theorem gX6_component_X6_components : GoodIn wsX6_component (wsV RX6 84 RX6 yX6_components wsX6_components) := goodIn_app (goodIn_of _ (by decide +kernel)) ggX6_component_X6_components
set_option maxRecDepth 20000 in
theorem ggX6_component_X6_together : GoodIn wsX6_component wsX6_together := goodIn_r _ [36, 15, 8, 25, 58, 59, 60, 61, 62, 63, 64, 65, 66, 67, 68, 69, 70, 71, 72, 73, 74, 75, 76, 77, 78, 79, 80] (by decide +kernel) (by decide +kernel)
set_option maxRecDepth 20000 in
theorem gX6_component_X6_together : GoodIn wsX6_component (wsV RX6 178 RX6 yX6_together wsX6_together) := goodIn_app (goodIn_of _ (by decide +kernel)) ggX6_component_X6_together
set_option maxRecDepth 20000 in
theorem ggX6_component_X6_beginning : GoodIn wsX6_component wsX6_beginning := goodIn_r _ [40, 9, 8, 10, 3, 4, 5, 6, 7, 1, 11, 12, 13, 14, 15, 16, 17, 18, 19, 20, 21, 22, 23, 24, 25, 26, 27, 28, 29, 30, 31, 32, 58, 59, 60, 61, 62, 63, 64, 65, 66, 67, 68, 69, 70, 71, 72, 73, 74, 75, 76, 77, 78, 79, 80] (by decide +kernel) (by decide +kernel)
set_option maxRecDepth 20000 in
theorem gX6_component_X6_beginning : GoodIn wsX6_component (wsV RX6 181 RX6 yX6_beginning wsX6_beginning) := goodIn_app (goodIn_of _ (by decide +kernel)) ggX6_component_X6_beginning
set_option maxRecDepth 20000 in
theorem ggX6_component_X6_edgesOf : GoodIn wsX6_component wsX6_edgesOf := goodIn_r _ [44, 26, 27, 28, 6, 29, 16, 17, 18, 19, 20, 15, 21, 22, 23, 24, 25, 30, 31, 32, 58, 59, 60, 61, 62, 63, 64, 65, 66, 67, 68, 69, 70, 71, 72, 73, 74, 75, 76, 77, 78, 79, 80] (by decide +kernel) (by decide +kernel)
set_option maxRecDepth 20000 in
theorem gX6_component_X6_edgesOf : GoodIn wsX6_component (wsV RX6 184 RX6 yX6_edgesOf wsX6_edgesOf) := goodIn_app (goodIn_of _ (by decide +kernel)) ggX6_component_X6_edgesOf
set_option maxRecDepth 20000 in
theorem ggX6_component_X6_pieces : GoodIn wsX6_component wsX6_pieces := goodIn_r _ [48, 15, 49, 50, 51, 52, 6, 53, 16, 58, 59, 60, 61, 62, 63, 64, 65, 66, 67, 68, 69, 70, 71, 72, 73, 74, 75, 76, 77, 78, 79, 80] (by decide +kernel) (by decide +kernel)
set_option maxRecDepth 20000 in
theorem gX6_component_X6_pieces : GoodIn wsX6_component (wsV RX6 149 RX6 yX6_pieces wsX6_pieces) := goodIn_app (goodIn_of _ (by decide +kernel)) ggX6_component_X6_pieces
set_option maxRecDepth 20000 in
theorem ggX6_component_X6_placeOf : GoodIn wsX6_component wsX6_placeOf := goodIn_r _ [20, 15, 16, 21, 22, 23, 6, 24, 25, 58, 59, 60, 61, 62, 63, 64, 65, 66, 67, 68, 69, 70, 71, 72, 73, 74, 75, 76, 77, 78, 79, 80] (by decide +kernel) (by decide +kernel)
set_option maxRecDepth 20000 in
theorem gX6_component_X6_placeOf : GoodIn wsX6_component (wsV RX6 64 RX6 yX6_placeOf wsX6_placeOf) := goodIn_app (goodIn_of _ (by decide +kernel)) ggX6_component_X6_placeOf
set_option maxRecDepth 20000 in
theorem ggX6_component_X6_pieceOf : GoodIn wsX6_component wsX6_pieceOf := goodIn_r _ [57, 49, 50, 51, 52, 6, 53, 15, 16, 58, 59, 60, 61, 62, 63, 64, 65, 66, 67, 68, 69, 70, 71, 72, 73, 74, 75, 76, 77, 78, 79, 80] (by decide +kernel) (by decide +kernel)
set_option maxRecDepth 20000 in
theorem gX6_component_X6_pieceOf : GoodIn wsX6_component (wsV RX6 168 RX6 yX6_pieceOf wsX6_pieceOf) := goodIn_app (goodIn_of _ (by decide +kernel)) ggX6_component_X6_pieceOf
theorem dX6_component_0 : decode cX6_component 0 = .ok (.aload_n 0, 1) := by decide +kernel
theorem dX6_component_1 : decode cX6_component 1 = .ok (.invokevirtual 84, 3) := by decide +kernel
theorem dX6_component_4 : decode cX6_component 4 = .ok (.aload_n 0, 1) := by decide +kernel
theorem dX6_component_5 : decode cX6_component 5 = .ok (.getfield 75, 3) := by decide +kernel
theorem dX6_component_8 : decode cX6_component 8 = .ok (.istore_n 3, 1) := by decide +kernel
theorem dX6_component_9 : decode cX6_component 9 = .ok (.iload_n 1, 1) := by decide +kernel
theorem dX6_component_10 : decode cX6_component 10 = .ok (.ifCond .lt 13, 3) := by decide +kernel
theorem dX6_component_13 : decode cX6_component 13 = .ok (.iload_n 1, 1) := by decide +kernel
theorem dX6_component_14 : decode cX6_component 14 = .ok (.iload_n 3, 1) := by decide +kernel
theorem dX6_component_15 : decode cX6_component 15 = .ok (.aload_n 0, 1) := by decide +kernel
theorem dX6_component_16 : decode cX6_component 16 = .ok (.getfield 105, 3) := by decide +kernel
theorem dX6_component_19 : decode cX6_component 19 = .ok (.iadd, 1) := by decide +kernel
theorem dX6_component_20 : decode cX6_component 20 = .ok (.if_icmp .lt 7, 3) := by decide +kernel
theorem dX6_component_23 : decode cX6_component 23 = .ok (.sipush (-1000), 3) := by decide +kernel
theorem dX6_component_26 : decode cX6_component 26 = .ok (.ireturn, 1) := by decide +kernel
theorem dX6_component_27 : decode cX6_component 27 = .ok (.iload_n 1, 1) := by decide +kernel
theorem dX6_component_28 : decode cX6_component 28 = .ok (.iload_n 3, 1) := by decide +kernel
theorem dX6_component_29 : decode cX6_component 29 = .ok (.if_icmp .lt 7, 3) := by decide +kernel
theorem dX6_component_32 : decode cX6_component 32 = .ok (.iconst 1, 1) := by decide +kernel
theorem dX6_component_33 : decode cX6_component 33 = .ok (.goto 4, 3) := by decide +kernel
theorem dX6_component_36 : decode cX6_component 36 = .ok (.iconst 0, 1) := by decide +kernel
theorem dX6_component_37 : decode cX6_component 37 = .ok (.istore 4, 2) := by decide +kernel
theorem dX6_component_39 : decode cX6_component 39 = .ok (.iload_n 2, 1) := by decide +kernel
theorem dX6_component_40 : decode cX6_component 40 = .ok (.bipush 10, 2) := by decide +kernel
theorem dX6_component_42 : decode cX6_component 42 = .ok (.if_icmp .lt 55, 3) := by decide +kernel
theorem dX6_component_45 : decode cX6_component 45 = .ok (.iload_n 2, 1) := by decide +kernel
theorem dX6_component_46 : decode cX6_component 46 = .ok (.bipush 10, 2) := by decide +kernel
theorem dX6_component_48 : decode cX6_component 48 = .ok (.isub, 1) := by decide +kernel
theorem dX6_component_49 : decode cX6_component 49 = .ok (.istore 5, 2) := by decide +kernel
theorem dX6_component_51 : decode cX6_component 51 = .ok (.iload 5, 2) := by decide +kernel
theorem dX6_component_53 : decode cX6_component 53 = .ok (.iload_n 3, 1) := by decide +kernel
theorem dX6_component_54 : decode cX6_component 54 = .ok (.aload_n 0, 1) := by decide +kernel
theorem dX6_component_55 : decode cX6_component 55 = .ok (.getfield 105, 3) := by decide +kernel
theorem dX6_component_58 : decode cX6_component 58 = .ok (.iadd, 1) := by decide +kernel
theorem dX6_component_59 : decode cX6_component 59 = .ok (.if_icmp .lt 7, 3) := by decide +kernel
theorem dX6_component_62 : decode cX6_component 62 = .ok (.sipush (-1000), 3) := by decide +kernel
theorem dX6_component_65 : decode cX6_component 65 = .ok (.ireturn, 1) := by decide +kernel
theorem dX6_component_66 : decode cX6_component 66 = .ok (.iload 4, 2) := by decide +kernel
theorem dX6_component_68 : decode cX6_component 68 = .ok (.ifCond .ne 15, 3) := by decide +kernel
theorem dX6_component_71 : decode cX6_component 71 = .ok (.iload 5, 2) := by decide +kernel
theorem dX6_component_73 : decode cX6_component 73 = .ok (.iload_n 3, 1) := by decide +kernel
theorem dX6_component_74 : decode cX6_component 74 = .ok (.if_icmp .ge 9, 3) := by decide +kernel
theorem dX6_component_77 : decode cX6_component 77 = .ok (.iload 5, 2) := by decide +kernel
theorem dX6_component_79 : decode cX6_component 79 = .ok (.iload_n 1, 1) := by decide +kernel
theorem dX6_component_80 : decode cX6_component 80 = .ok (.if_icmp .ne 7, 3) := by decide +kernel
theorem dX6_component_83 : decode cX6_component 83 = .ok (.iconst 0, 1) := by decide +kernel
theorem dX6_component_84 : decode cX6_component 84 = .ok (.goto 12, 3) := by decide +kernel
theorem dX6_component_87 : decode cX6_component 87 = .ok (.aload_n 0, 1) := by decide +kernel
theorem dX6_component_88 : decode cX6_component 88 = .ok (.iload_n 1, 1) := by decide +kernel
theorem dX6_component_89 : decode cX6_component 89 = .ok (.iload 5, 2) := by decide +kernel
theorem dX6_component_91 : decode cX6_component 91 = .ok (.invokevirtual 178, 3) := by decide +kernel
theorem dX6_component_94 : decode cX6_component 94 = .ok (.iconst 2, 1) := by decide +kernel
theorem dX6_component_95 : decode cX6_component 95 = .ok (.idiv, 1) := by decide +kernel
theorem dX6_component_96 : decode cX6_component 96 = .ok (.ireturn, 1) := by decide +kernel
theorem dX6_component_97 : decode cX6_component 97 = .ok (.iload 4, 2) := by decide +kernel
theorem dX6_component_99 : decode cX6_component 99 = .ok (.ifCond .eq 7, 3) := by decide +kernel
theorem dX6_component_102 : decode cX6_component 102 = .ok (.iconst 0, 1) := by decide +kernel
theorem dX6_component_103 : decode cX6_component 103 = .ok (.goto 8, 3) := by decide +kernel
theorem dX6_component_106 : decode cX6_component 106 = .ok (.aload_n 0, 1) := by decide +kernel
theorem dX6_component_107 : decode cX6_component 107 = .ok (.iload_n 1, 1) := by decide +kernel
theorem dX6_component_108 : decode cX6_component 108 = .ok (.invokevirtual 181, 3) := by decide +kernel
theorem dX6_component_111 : decode cX6_component 111 = .ok (.istore 5, 2) := by decide +kernel
theorem dX6_component_113 : decode cX6_component 113 = .ok (.iload_n 2, 1) := by decide +kernel
theorem dX6_component_114 : decode cX6_component 114 = .ok (.tableswitch 95 0 3 #[30, 33, 49, 65], 30) := by decide +kernel
theorem dX6_component_144 : decode cX6_component 144 = .ok (.iload 5, 2) := by decide +kernel
theorem dX6_component_146 : decode cX6_component 146 = .ok (.ireturn, 1) := by decide +kernel
theorem dX6_component_147 : decode cX6_component 147 = .ok (.iload 4, 2) := by decide +kernel
theorem dX6_component_149 : decode cX6_component 149 = .ok (.ifCond .eq 7, 3) := by decide +kernel
theorem dX6_component_152 : decode cX6_component 152 = .ok (.iconst 0, 1) := by decide +kernel
theorem dX6_component_153 : decode cX6_component 153 = .ok (.goto 9, 3) := by decide +kernel
theorem dX6_component_156 : decode cX6_component 156 = .ok (.aload_n 0, 1) := by decide +kernel
theorem dX6_component_157 : decode cX6_component 157 = .ok (.iload 5, 2) := by decide +kernel
theorem dX6_component_159 : decode cX6_component 159 = .ok (.invokevirtual 184, 3) := by decide +kernel
theorem dX6_component_162 : decode cX6_component 162 = .ok (.ireturn, 1) := by decide +kernel
theorem dX6_component_163 : decode cX6_component 163 = .ok (.iload 4, 2) := by decide +kernel
theorem dX6_component_165 : decode cX6_component 165 = .ok (.ifCond .eq 7, 3) := by decide +kernel
theorem dX6_component_168 : decode cX6_component 168 = .ok (.iconst 0, 1) := by decide +kernel
theorem dX6_component_169 : decode cX6_component 169 = .ok (.goto 9, 3) := by decide +kernel
theorem dX6_component_172 : decode cX6_component 172 = .ok (.aload_n 0, 1) := by decide +kernel
theorem dX6_component_173 : decode cX6_component 173 = .ok (.iload_n 1, 1) := by decide +kernel
theorem dX6_component_174 : decode cX6_component 174 = .ok (.iload_n 1, 1) := by decide +kernel
theorem dX6_component_175 : decode cX6_component 175 = .ok (.invokevirtual 178, 3) := by decide +kernel
theorem dX6_component_178 : decode cX6_component 178 = .ok (.ireturn, 1) := by decide +kernel
theorem dX6_component_179 : decode cX6_component 179 = .ok (.iload 4, 2) := by decide +kernel
theorem dX6_component_181 : decode cX6_component 181 = .ok (.ifCond .eq 14, 3) := by decide +kernel
theorem dX6_component_184 : decode cX6_component 184 = .ok (.aload_n 0, 1) := by decide +kernel
theorem dX6_component_185 : decode cX6_component 185 = .ok (.invokevirtual 149, 3) := by decide +kernel
theorem dX6_component_188 : decode cX6_component 188 = .ok (.iload_n 1, 1) := by decide +kernel
theorem dX6_component_189 : decode cX6_component 189 = .ok (.iadd, 1) := by decide +kernel
theorem dX6_component_190 : decode cX6_component 190 = .ok (.iload_n 3, 1) := by decide +kernel
theorem dX6_component_191 : decode cX6_component 191 = .ok (.isub, 1) := by decide +kernel
theorem dX6_component_192 : decode cX6_component 192 = .ok (.goto 16, 3) := by decide +kernel
theorem dX6_component_195 : decode cX6_component 195 = .ok (.aload_n 0, 1) := by decide +kernel
theorem dX6_component_196 : decode cX6_component 196 = .ok (.aload_n 0, 1) := by decide +kernel
theorem dX6_component_197 : decode cX6_component 197 = .ok (.iload 5, 2) := by decide +kernel
theorem dX6_component_199 : decode cX6_component 199 = .ok (.iconst 1, 1) := by decide +kernel
theorem dX6_component_200 : decode cX6_component 200 = .ok (.invokevirtual 64, 3) := by decide +kernel
theorem dX6_component_203 : decode cX6_component 203 = .ok (.iconst 4, 1) := by decide +kernel
theorem dX6_component_204 : decode cX6_component 204 = .ok (.idiv, 1) := by decide +kernel
theorem dX6_component_205 : decode cX6_component 205 = .ok (.invokevirtual 168, 3) := by decide +kernel
theorem dX6_component_208 : decode cX6_component 208 = .ok (.ireturn, 1) := by decide +kernel
theorem dX6_component_209 : decode cX6_component 209 = .ok (.sipush (-1000), 3) := by decide +kernel
theorem dX6_component_212 : decode cX6_component 212 = .ok (.ireturn, 1) := by decide +kernel
set_option maxRecDepth 20000 in
theorem ggX6_face_X6_findFaces : GoodIn wsX6_face wsX6_findFaces := goodIn_r _ [8, 2, 1, 9, 3, 10, 11, 12, 7, 13, 14, 15, 16, 17, 18, 19, 20, 21, 22, 23, 24, 25, 26, 27, 28, 29, 30, 31, 32, 33, 34, 35, 36, 37, 38, 39, 40, 41, 42, 43, 44, 45, 46, 47, 48, 49, 50, 51, 52, 53, 54, 55] (by decide +kernel) (by decide +kernel)
set_option maxRecDepth 20000 in
theorem gX6_face_X6_findFaces : GoodIn wsX6_face (wsV RX6 111 RX6 yX6_findFaces wsX6_findFaces) := goodIn_app (goodIn_of _ (by decide +kernel)) ggX6_face_X6_findFaces
set_option maxRecDepth 20000 in
theorem ggX6_face_X6_turn : GoodIn wsX6_face wsX6_turn := goodIn_r _ [23, 15, 24, 25, 26, 7, 27, 14, 28, 29, 30, 31, 32, 33, 34, 35, 36, 37, 38, 39, 40, 41, 42, 43, 44, 45, 46, 47, 48, 49, 50, 51, 52, 53, 54, 55] (by decide +kernel) (by decide +kernel)
set_option maxRecDepth 20000 in
theorem gX6_face_X6_turn : GoodIn wsX6_face (wsV RX6 96 RX6 yX6_turn wsX6_turn) := goodIn_app (goodIn_of _ (by decide +kernel)) ggX6_face_X6_turn
theorem dX6_face_0 : decode cX6_face 0 = .ok (.aload_n 0, 1) := by decide +kernel
theorem dX6_face_1 : decode cX6_face 1 = .ok (.invokevirtual 111, 3) := by decide +kernel
theorem dX6_face_4 : decode cX6_face 4 = .ok (.iload_n 1, 1) := by decide +kernel
theorem dX6_face_5 : decode cX6_face 5 = .ok (.ifCond .lt 16, 3) := by decide +kernel
theorem dX6_face_8 : decode cX6_face 8 = .ok (.iload_n 2, 1) := by decide +kernel
theorem dX6_face_9 : decode cX6_face 9 = .ok (.iconst (-1), 1) := by decide +kernel
theorem dX6_face_10 : decode cX6_face 10 = .ok (.if_icmp .lt 11, 3) := by decide +kernel
theorem dX6_face_13 : decode cX6_face 13 = .ok (.iload_n 1, 1) := by decide +kernel
theorem dX6_face_14 : decode cX6_face 14 = .ok (.aload_n 0, 1) := by decide +kernel
theorem dX6_face_15 : decode cX6_face 15 = .ok (.getfield 90, 3) := by decide +kernel
theorem dX6_face_18 : decode cX6_face 18 = .ok (.if_icmp .lt 5, 3) := by decide +kernel
theorem dX6_face_21 : decode cX6_face 21 = .ok (.iconst 0, 1) := by decide +kernel
theorem dX6_face_22 : decode cX6_face 22 = .ok (.ireturn, 1) := by decide +kernel
theorem dX6_face_23 : decode cX6_face 23 = .ok (.iconst 0, 1) := by decide +kernel
theorem dX6_face_24 : decode cX6_face 24 = .ok (.istore_n 3, 1) := by decide +kernel
theorem dX6_face_25 : decode cX6_face 25 = .ok (.aload_n 0, 1) := by decide +kernel
theorem dX6_face_26 : decode cX6_face 26 = .ok (.getfield 51, 3) := by decide +kernel
theorem dX6_face_29 : decode cX6_face 29 = .ok (.iload_n 3, 1) := by decide +kernel
theorem dX6_face_30 : decode cX6_face 30 = .ok (.iaload, 1) := by decide +kernel
theorem dX6_face_31 : decode cX6_face 31 = .ok (.iload_n 1, 1) := by decide +kernel
theorem dX6_face_32 : decode cX6_face 32 = .ok (.if_icmp .eq 9, 3) := by decide +kernel
theorem dX6_face_35 : decode cX6_face 35 = .ok (.iinc 3 1, 3) := by decide +kernel
theorem dX6_face_38 : decode cX6_face 38 = .ok (.goto (-13), 3) := by decide +kernel
theorem dX6_face_41 : decode cX6_face 41 = .ok (.iconst 2, 1) := by decide +kernel
theorem dX6_face_42 : decode cX6_face 42 = .ok (.aload_n 0, 1) := by decide +kernel
theorem dX6_face_43 : decode cX6_face 43 = .ok (.getfield 32, 3) := by decide +kernel
theorem dX6_face_46 : decode cX6_face 46 = .ok (.iload_n 3, 1) := by decide +kernel
theorem dX6_face_47 : decode cX6_face 47 = .ok (.iconst 2, 1) := by decide +kernel
theorem dX6_face_48 : decode cX6_face 48 = .ok (.idiv, 1) := by decide +kernel
theorem dX6_face_49 : decode cX6_face 49 = .ok (.iaload, 1) := by decide +kernel
theorem dX6_face_50 : decode cX6_face 50 = .ok (.imul, 1) := by decide +kernel
theorem dX6_face_51 : decode cX6_face 51 = .ok (.iload_n 3, 1) := by decide +kernel
theorem dX6_face_52 : decode cX6_face 52 = .ok (.iconst 2, 1) := by decide +kernel
theorem dX6_face_53 : decode cX6_face 53 = .ok (.irem, 1) := by decide +kernel
theorem dX6_face_54 : decode cX6_face 54 = .ok (.iadd, 1) := by decide +kernel
theorem dX6_face_55 : decode cX6_face 55 = .ok (.istore 4, 2) := by decide +kernel
theorem dX6_face_57 : decode cX6_face 57 = .ok (.iconst 1, 1) := by decide +kernel
theorem dX6_face_58 : decode cX6_face 58 = .ok (.istore 5, 2) := by decide +kernel
theorem dX6_face_60 : decode cX6_face 60 = .ok (.iload_n 2, 1) := by decide +kernel
theorem dX6_face_61 : decode cX6_face 61 = .ok (.ifCond .ne 8, 3) := by decide +kernel
theorem dX6_face_64 : decode cX6_face 64 = .ok (.iload 4, 2) := by decide +kernel
theorem dX6_face_66 : decode cX6_face 66 = .ok (.goto 4, 3) := by decide +kernel
theorem dX6_face_69 : decode cX6_face 69 = .ok (.iconst 0, 1) := by decide +kernel
theorem dX6_face_70 : decode cX6_face 70 = .ok (.istore 6, 2) := by decide +kernel
theorem dX6_face_72 : decode cX6_face 72 = .ok (.aload_n 0, 1) := by decide +kernel
theorem dX6_face_73 : decode cX6_face 73 = .ok (.iload 4, 2) := by decide +kernel
theorem dX6_face_75 : decode cX6_face 75 = .ok (.invokevirtual 96, 3) := by decide +kernel
theorem dX6_face_78 : decode cX6_face 78 = .ok (.istore 7, 2) := by decide +kernel
theorem dX6_face_80 : decode cX6_face 80 = .ok (.iload 7, 2) := by decide +kernel
theorem dX6_face_82 : decode cX6_face 82 = .ok (.iload 4, 2) := by decide +kernel
theorem dX6_face_84 : decode cX6_face 84 = .ok (.if_icmp .eq 32, 3) := by decide +kernel
theorem dX6_face_87 : decode cX6_face 87 = .ok (.iload 5, 2) := by decide +kernel
theorem dX6_face_89 : decode cX6_face 89 = .ok (.iload_n 2, 1) := by decide +kernel
theorem dX6_face_90 : decode cX6_face 90 = .ok (.if_icmp .ne 8, 3) := by decide +kernel
theorem dX6_face_93 : decode cX6_face 93 = .ok (.iload 7, 2) := by decide +kernel
theorem dX6_face_95 : decode cX6_face 95 = .ok (.goto 5, 3) := by decide +kernel
theorem dX6_face_98 : decode cX6_face 98 = .ok (.iload 6, 2) := by decide +kernel
theorem dX6_face_100 : decode cX6_face 100 = .ok (.istore 6, 2) := by decide +kernel
theorem dX6_face_102 : decode cX6_face 102 = .ok (.iinc 5 1, 3) := by decide +kernel
theorem dX6_face_105 : decode cX6_face 105 = .ok (.aload_n 0, 1) := by decide +kernel
theorem dX6_face_106 : decode cX6_face 106 = .ok (.iload 7, 2) := by decide +kernel
theorem dX6_face_108 : decode cX6_face 108 = .ok (.invokevirtual 96, 3) := by decide +kernel
theorem dX6_face_111 : decode cX6_face 111 = .ok (.istore 7, 2) := by decide +kernel
theorem dX6_face_113 : decode cX6_face 113 = .ok (.goto (-33), 3) := by decide +kernel
theorem dX6_face_116 : decode cX6_face 116 = .ok (.iload_n 2, 1) := by decide +kernel
theorem dX6_face_117 : decode cX6_face 117 = .ok (.ifCond .ge 6, 3) := by decide +kernel
theorem dX6_face_120 : decode cX6_face 120 = .ok (.iload 5, 2) := by decide +kernel
theorem dX6_face_122 : decode cX6_face 122 = .ok (.ireturn, 1) := by decide +kernel
theorem dX6_face_123 : decode cX6_face 123 = .ok (.iload 6, 2) := by decide +kernel
theorem dX6_face_125 : decode cX6_face 125 = .ok (.iconst 2, 1) := by decide +kernel
theorem dX6_face_126 : decode cX6_face 126 = .ok (.irem, 1) := by decide +kernel
theorem dX6_face_127 : decode cX6_face 127 = .ok (.iconst 1, 1) := by decide +kernel
theorem dX6_face_128 : decode cX6_face 128 = .ok (.if_icmp .ne 11, 3) := by decide +kernel
theorem dX6_face_131 : decode cX6_face 131 = .ok (.iload 6, 2) := by decide +kernel
theorem dX6_face_133 : decode cX6_face 133 = .ok (.iconst 2, 1) := by decide +kernel
theorem dX6_face_134 : decode cX6_face 134 = .ok (.idiv, 1) := by decide +kernel
theorem dX6_face_135 : decode cX6_face 135 = .ok (.ineg, 1) := by decide +kernel
theorem dX6_face_136 : decode cX6_face 136 = .ok (.goto 7, 3) := by decide +kernel
theorem dX6_face_139 : decode cX6_face 139 = .ok (.iload 6, 2) := by decide +kernel
theorem dX6_face_141 : decode cX6_face 141 = .ok (.iconst 2, 1) := by decide +kernel
theorem dX6_face_142 : decode cX6_face 142 = .ok (.idiv, 1) := by decide +kernel
theorem dX6_face_143 : decode cX6_face 143 = .ok (.ireturn, 1) := by decide +kernel
set_option maxRecDepth 20000 in
theorem ggX6_mirror_X6_change : GoodIn wsX6_mirror wsX6_change := goodIn_r _ [6, 1, 7, 8, 9, 10, 11, 12, 5, 13, 14, 15, 16, 17, 18, 19, 20, 21, 22, 23, 24, 25, 26, 27, 28, 29, 30, 31, 32, 33, 34, 35, 36] (by decide +kernel) (by decide +kernel)
set_option maxRecDepth 20000 in
theorem gX6_mirror_X6_change : GoodIn wsX6_mirror (wsV RX6 187 RX6 yX6_change wsX6_change) := goodIn_app (goodIn_of _ (by decide +kernel)) ggX6_mirror_X6_change
theorem dX6_mirror_0 : decode cX6_mirror 0 = .ok (.iconst 0, 1) := by decide +kernel
theorem dX6_mirror_1 : decode cX6_mirror 1 = .ok (.istore_n 1, 1) := by decide +kernel
theorem dX6_mirror_2 : decode cX6_mirror 2 = .ok (.iload_n 1, 1) := by decide +kernel
theorem dX6_mirror_3 : decode cX6_mirror 3 = .ok (.aload_n 0, 1) := by decide +kernel
theorem dX6_mirror_4 : decode cX6_mirror 4 = .ok (.getfield 57, 3) := by decide +kernel
theorem dX6_mirror_7 : decode cX6_mirror 7 = .ok (.if_icmp .ge 15, 3) := by decide +kernel
theorem dX6_mirror_10 : decode cX6_mirror 10 = .ok (.aload_n 0, 1) := by decide +kernel
theorem dX6_mirror_11 : decode cX6_mirror 11 = .ok (.iload_n 1, 1) := by decide +kernel
theorem dX6_mirror_12 : decode cX6_mirror 12 = .ok (.invokevirtual 187, 3) := by decide +kernel
theorem dX6_mirror_15 : decode cX6_mirror 15 = .ok (.pop, 1) := by decide +kernel
theorem dX6_mirror_16 : decode cX6_mirror 16 = .ok (.iinc 1 1, 3) := by decide +kernel
theorem dX6_mirror_19 : decode cX6_mirror 19 = .ok (.goto (-17), 3) := by decide +kernel
theorem dX6_mirror_22 : decode cX6_mirror 22 = .ok (.return_, 1) := by decide +kernel
set_option maxRecDepth 20000 in
theorem ggX6_change_X6_upperIn : GoodIn wsX6_change wsX6_upperIn := goodIn_r _ [9, 4, 10, 11, 12, 13, 14, 15, 16, 17, 18, 19, 20, 21, 22, 23, 24, 25, 26, 27, 28, 29, 30, 31, 32] (by decide +kernel) (by decide +kernel)
set_option maxRecDepth 20000 in
theorem gX6_change_X6_upperIn : GoodIn wsX6_change (wsV RX6 140 RX6 yX6_upperIn wsX6_upperIn) := goodIn_app (goodIn_of _ (by decide +kernel)) ggX6_change_X6_upperIn
theorem dX6_change_0 : decode cX6_change 0 = .ok (.iload_n 1, 1) := by decide +kernel
theorem dX6_change_1 : decode cX6_change 1 = .ok (.ifCond .lt 11, 3) := by decide +kernel
theorem dX6_change_4 : decode cX6_change 4 = .ok (.iload_n 1, 1) := by decide +kernel
theorem dX6_change_5 : decode cX6_change 5 = .ok (.aload_n 0, 1) := by decide +kernel
theorem dX6_change_6 : decode cX6_change 6 = .ok (.getfield 57, 3) := by decide +kernel
theorem dX6_change_9 : decode cX6_change 9 = .ok (.if_icmp .lt 5, 3) := by decide +kernel
theorem dX6_change_12 : decode cX6_change 12 = .ok (.iconst 0, 1) := by decide +kernel
theorem dX6_change_13 : decode cX6_change 13 = .ok (.ireturn, 1) := by decide +kernel
theorem dX6_change_14 : decode cX6_change 14 = .ok (.aload_n 0, 1) := by decide +kernel
theorem dX6_change_15 : decode cX6_change 15 = .ok (.iload_n 1, 1) := by decide +kernel
theorem dX6_change_16 : decode cX6_change 16 = .ok (.invokevirtual 140, 3) := by decide +kernel
theorem dX6_change_19 : decode cX6_change 19 = .ok (.istore_n 2, 1) := by decide +kernel
theorem dX6_change_20 : decode cX6_change 20 = .ok (.iconst 0, 1) := by decide +kernel
theorem dX6_change_21 : decode cX6_change 21 = .ok (.istore_n 3, 1) := by decide +kernel
theorem dX6_change_22 : decode cX6_change 22 = .ok (.iload_n 3, 1) := by decide +kernel
theorem dX6_change_23 : decode cX6_change 23 = .ok (.iconst 4, 1) := by decide +kernel
theorem dX6_change_24 : decode cX6_change 24 = .ok (.if_icmp .ge 29, 3) := by decide +kernel
theorem dX6_change_27 : decode cX6_change 27 = .ok (.aload_n 0, 1) := by decide +kernel
theorem dX6_change_28 : decode cX6_change 28 = .ok (.getfield 35, 3) := by decide +kernel
theorem dX6_change_31 : decode cX6_change 31 = .ok (.iload_n 3, 1) := by decide +kernel
theorem dX6_change_32 : decode cX6_change 32 = .ok (.aload_n 0, 1) := by decide +kernel
theorem dX6_change_33 : decode cX6_change 33 = .ok (.getfield 23, 3) := by decide +kernel
theorem dX6_change_36 : decode cX6_change 36 = .ok (.iconst 4, 1) := by decide +kernel
theorem dX6_change_37 : decode cX6_change 37 = .ok (.iload_n 1, 1) := by decide +kernel
theorem dX6_change_38 : decode cX6_change 38 = .ok (.imul, 1) := by decide +kernel
theorem dX6_change_39 : decode cX6_change 39 = .ok (.iload_n 2, 1) := by decide +kernel
theorem dX6_change_40 : decode cX6_change 40 = .ok (.iload_n 3, 1) := by decide +kernel
theorem dX6_change_41 : decode cX6_change 41 = .ok (.iadd, 1) := by decide +kernel
theorem dX6_change_42 : decode cX6_change 42 = .ok (.iconst 4, 1) := by decide +kernel
theorem dX6_change_43 : decode cX6_change 43 = .ok (.irem, 1) := by decide +kernel
theorem dX6_change_44 : decode cX6_change 44 = .ok (.iadd, 1) := by decide +kernel
theorem dX6_change_45 : decode cX6_change 45 = .ok (.iaload, 1) := by decide +kernel
theorem dX6_change_46 : decode cX6_change 46 = .ok (.iastore, 1) := by decide +kernel
theorem dX6_change_47 : decode cX6_change 47 = .ok (.iinc 3 1, 3) := by decide +kernel
theorem dX6_change_50 : decode cX6_change 50 = .ok (.goto (-28), 3) := by decide +kernel
theorem dX6_change_53 : decode cX6_change 53 = .ok (.iconst 0, 1) := by decide +kernel
theorem dX6_change_54 : decode cX6_change 54 = .ok (.istore_n 3, 1) := by decide +kernel
theorem dX6_change_55 : decode cX6_change 55 = .ok (.iload_n 3, 1) := by decide +kernel
theorem dX6_change_56 : decode cX6_change 56 = .ok (.iconst 4, 1) := by decide +kernel
theorem dX6_change_57 : decode cX6_change 57 = .ok (.if_icmp .ge 25, 3) := by decide +kernel
theorem dX6_change_60 : decode cX6_change 60 = .ok (.aload_n 0, 1) := by decide +kernel
theorem dX6_change_61 : decode cX6_change 61 = .ok (.getfield 23, 3) := by decide +kernel
theorem dX6_change_64 : decode cX6_change 64 = .ok (.iconst 4, 1) := by decide +kernel
theorem dX6_change_65 : decode cX6_change 65 = .ok (.iload_n 1, 1) := by decide +kernel
theorem dX6_change_66 : decode cX6_change 66 = .ok (.imul, 1) := by decide +kernel
theorem dX6_change_67 : decode cX6_change 67 = .ok (.iload_n 3, 1) := by decide +kernel
theorem dX6_change_68 : decode cX6_change 68 = .ok (.iadd, 1) := by decide +kernel
theorem dX6_change_69 : decode cX6_change 69 = .ok (.aload_n 0, 1) := by decide +kernel
theorem dX6_change_70 : decode cX6_change 70 = .ok (.getfield 35, 3) := by decide +kernel
theorem dX6_change_73 : decode cX6_change 73 = .ok (.iload_n 3, 1) := by decide +kernel
theorem dX6_change_74 : decode cX6_change 74 = .ok (.iaload, 1) := by decide +kernel
theorem dX6_change_75 : decode cX6_change 75 = .ok (.iastore, 1) := by decide +kernel
theorem dX6_change_76 : decode cX6_change 76 = .ok (.iinc 3 1, 3) := by decide +kernel
theorem dX6_change_79 : decode cX6_change 79 = .ok (.goto (-24), 3) := by decide +kernel
theorem dX6_change_82 : decode cX6_change 82 = .ok (.aload_n 0, 1) := by decide +kernel
theorem dX6_change_83 : decode cX6_change 83 = .ok (.getfield 20, 3) := by decide +kernel
theorem dX6_change_86 : decode cX6_change 86 = .ok (.iload_n 1, 1) := by decide +kernel
theorem dX6_change_87 : decode cX6_change 87 = .ok (.aload_n 0, 1) := by decide +kernel
theorem dX6_change_88 : decode cX6_change 88 = .ok (.getfield 20, 3) := by decide +kernel
theorem dX6_change_91 : decode cX6_change 91 = .ok (.iload_n 1, 1) := by decide +kernel
theorem dX6_change_92 : decode cX6_change 92 = .ok (.iaload, 1) := by decide +kernel
theorem dX6_change_93 : decode cX6_change 93 = .ok (.ineg, 1) := by decide +kernel
theorem dX6_change_94 : decode cX6_change 94 = .ok (.iastore, 1) := by decide +kernel
theorem dX6_change_95 : decode cX6_change 95 = .ok (.iconst 1, 1) := by decide +kernel
theorem dX6_change_96 : decode cX6_change 96 = .ok (.ireturn, 1) := by decide +kernel
set_option maxRecDepth 20000 in
theorem ggX6_reverse_X6_components : GoodIn wsX6_reverse wsX6_components := goodIn_r _ [14, 5, 1, 15, 16, 17, 18, 19, 13, 20, 3, 8, 21, 22, 23, 24, 25, 26, 27, 28, 9, 29, 30, 31, 32, 33, 34, 35, 36, 37, 38, 39, 40, 41, 42, 43, 44, 45, 46, 47, 48, 49, 50, 51, 52, 53, 54, 55, 56, 57, 58] (by decide +kernel) (by decide +kernel)
set_option maxRecDepth 20000 in
theorem gX6_reverse_X6_components : GoodIn wsX6_reverse (wsV RX6 84 RX6 yX6_components wsX6_components) := goodIn_app (goodIn_of _ (by decide +kernel)) ggX6_reverse_X6_components
theorem dX6_reverse_0 : decode cX6_reverse 0 = .ok (.aload_n 0, 1) := by decide +kernel
theorem dX6_reverse_1 : decode cX6_reverse 1 = .ok (.invokevirtual 84, 3) := by decide +kernel
theorem dX6_reverse_4 : decode cX6_reverse 4 = .ok (.iload_n 1, 1) := by decide +kernel
theorem dX6_reverse_5 : decode cX6_reverse 5 = .ok (.ifCond .lt 16, 3) := by decide +kernel
theorem dX6_reverse_8 : decode cX6_reverse 8 = .ok (.iload_n 1, 1) := by decide +kernel
theorem dX6_reverse_9 : decode cX6_reverse 9 = .ok (.aload_n 0, 1) := by decide +kernel
theorem dX6_reverse_10 : decode cX6_reverse 10 = .ok (.getfield 75, 3) := by decide +kernel
theorem dX6_reverse_13 : decode cX6_reverse 13 = .ok (.aload_n 0, 1) := by decide +kernel
theorem dX6_reverse_14 : decode cX6_reverse 14 = .ok (.getfield 105, 3) := by decide +kernel
theorem dX6_reverse_17 : decode cX6_reverse 17 = .ok (.iadd, 1) := by decide +kernel
theorem dX6_reverse_18 : decode cX6_reverse 18 = .ok (.if_icmp .lt 5, 3) := by decide +kernel
theorem dX6_reverse_21 : decode cX6_reverse 21 = .ok (.iconst 0, 1) := by decide +kernel
theorem dX6_reverse_22 : decode cX6_reverse 22 = .ok (.ireturn, 1) := by decide +kernel
theorem dX6_reverse_23 : decode cX6_reverse 23 = .ok (.iconst 0, 1) := by decide +kernel
theorem dX6_reverse_24 : decode cX6_reverse 24 = .ok (.istore_n 2, 1) := by decide +kernel
theorem dX6_reverse_25 : decode cX6_reverse 25 = .ok (.iload_n 2, 1) := by decide +kernel
theorem dX6_reverse_26 : decode cX6_reverse 26 = .ok (.aload_n 0, 1) := by decide +kernel
theorem dX6_reverse_27 : decode cX6_reverse 27 = .ok (.getfield 57, 3) := by decide +kernel
theorem dX6_reverse_30 : decode cX6_reverse 30 = .ok (.if_icmp .ge 57, 3) := by decide +kernel
theorem dX6_reverse_33 : decode cX6_reverse 33 = .ok (.aload_n 0, 1) := by decide +kernel
theorem dX6_reverse_34 : decode cX6_reverse 34 = .ok (.getfield 38, 3) := by decide +kernel
theorem dX6_reverse_37 : decode cX6_reverse 37 = .ok (.iload_n 2, 1) := by decide +kernel
theorem dX6_reverse_38 : decode cX6_reverse 38 = .ok (.aload_n 0, 1) := by decide +kernel
theorem dX6_reverse_39 : decode cX6_reverse 39 = .ok (.getfield 48, 3) := by decide +kernel
theorem dX6_reverse_42 : decode cX6_reverse 42 = .ok (.iconst 4, 1) := by decide +kernel
theorem dX6_reverse_43 : decode cX6_reverse 43 = .ok (.iload_n 2, 1) := by decide +kernel
theorem dX6_reverse_44 : decode cX6_reverse 44 = .ok (.imul, 1) := by decide +kernel
theorem dX6_reverse_45 : decode cX6_reverse 45 = .ok (.iaload, 1) := by decide +kernel
theorem dX6_reverse_46 : decode cX6_reverse 46 = .ok (.iload_n 1, 1) := by decide +kernel
theorem dX6_reverse_47 : decode cX6_reverse 47 = .ok (.if_icmp .ne 7, 3) := by decide +kernel
theorem dX6_reverse_50 : decode cX6_reverse 50 = .ok (.iconst 1, 1) := by decide +kernel
theorem dX6_reverse_51 : decode cX6_reverse 51 = .ok (.goto 4, 3) := by decide +kernel
theorem dX6_reverse_54 : decode cX6_reverse 54 = .ok (.iconst 0, 1) := by decide +kernel
theorem dX6_reverse_55 : decode cX6_reverse 55 = .ok (.bastore, 1) := by decide +kernel
theorem dX6_reverse_56 : decode cX6_reverse 56 = .ok (.aload_n 0, 1) := by decide +kernel
theorem dX6_reverse_57 : decode cX6_reverse 57 = .ok (.getfield 42, 3) := by decide +kernel
theorem dX6_reverse_60 : decode cX6_reverse 60 = .ok (.iload_n 2, 1) := by decide +kernel
theorem dX6_reverse_61 : decode cX6_reverse 61 = .ok (.aload_n 0, 1) := by decide +kernel
theorem dX6_reverse_62 : decode cX6_reverse 62 = .ok (.getfield 48, 3) := by decide +kernel
theorem dX6_reverse_65 : decode cX6_reverse 65 = .ok (.iconst 4, 1) := by decide +kernel
theorem dX6_reverse_66 : decode cX6_reverse 66 = .ok (.iload_n 2, 1) := by decide +kernel
theorem dX6_reverse_67 : decode cX6_reverse 67 = .ok (.imul, 1) := by decide +kernel
theorem dX6_reverse_68 : decode cX6_reverse 68 = .ok (.iconst 1, 1) := by decide +kernel
theorem dX6_reverse_69 : decode cX6_reverse 69 = .ok (.iadd, 1) := by decide +kernel
theorem dX6_reverse_70 : decode cX6_reverse 70 = .ok (.iaload, 1) := by decide +kernel
theorem dX6_reverse_71 : decode cX6_reverse 71 = .ok (.iload_n 1, 1) := by decide +kernel
theorem dX6_reverse_72 : decode cX6_reverse 72 = .ok (.if_icmp .ne 7, 3) := by decide +kernel
theorem dX6_reverse_75 : decode cX6_reverse 75 = .ok (.iconst 1, 1) := by decide +kernel
theorem dX6_reverse_76 : decode cX6_reverse 76 = .ok (.goto 4, 3) := by decide +kernel
theorem dX6_reverse_79 : decode cX6_reverse 79 = .ok (.iconst 0, 1) := by decide +kernel
theorem dX6_reverse_80 : decode cX6_reverse 80 = .ok (.bastore, 1) := by decide +kernel
theorem dX6_reverse_81 : decode cX6_reverse 81 = .ok (.iinc 2 1, 3) := by decide +kernel
theorem dX6_reverse_84 : decode cX6_reverse 84 = .ok (.goto (-59), 3) := by decide +kernel
theorem dX6_reverse_87 : decode cX6_reverse 87 = .ok (.iconst 0, 1) := by decide +kernel
theorem dX6_reverse_88 : decode cX6_reverse 88 = .ok (.istore_n 2, 1) := by decide +kernel
theorem dX6_reverse_89 : decode cX6_reverse 89 = .ok (.iload_n 2, 1) := by decide +kernel
theorem dX6_reverse_90 : decode cX6_reverse 90 = .ok (.aload_n 0, 1) := by decide +kernel
theorem dX6_reverse_91 : decode cX6_reverse 91 = .ok (.getfield 57, 3) := by decide +kernel
theorem dX6_reverse_94 : decode cX6_reverse 94 = .ok (.if_icmp .ge 121, 3) := by decide +kernel
theorem dX6_reverse_97 : decode cX6_reverse 97 = .ok (.iconst 0, 1) := by decide +kernel
theorem dX6_reverse_98 : decode cX6_reverse 98 = .ok (.istore_n 3, 1) := by decide +kernel
theorem dX6_reverse_99 : decode cX6_reverse 99 = .ok (.iload_n 3, 1) := by decide +kernel
theorem dX6_reverse_100 : decode cX6_reverse 100 = .ok (.iconst 4, 1) := by decide +kernel
theorem dX6_reverse_101 : decode cX6_reverse 101 = .ok (.if_icmp .ge 42, 3) := by decide +kernel
theorem dX6_reverse_104 : decode cX6_reverse 104 = .ok (.aload_n 0, 1) := by decide +kernel
theorem dX6_reverse_105 : decode cX6_reverse 105 = .ok (.getfield 35, 3) := by decide +kernel
theorem dX6_reverse_108 : decode cX6_reverse 108 = .ok (.iload_n 3, 1) := by decide +kernel
theorem dX6_reverse_109 : decode cX6_reverse 109 = .ok (.aload_n 0, 1) := by decide +kernel
theorem dX6_reverse_110 : decode cX6_reverse 110 = .ok (.getfield 23, 3) := by decide +kernel
theorem dX6_reverse_113 : decode cX6_reverse 113 = .ok (.iconst 4, 1) := by decide +kernel
theorem dX6_reverse_114 : decode cX6_reverse 114 = .ok (.iload_n 2, 1) := by decide +kernel
theorem dX6_reverse_115 : decode cX6_reverse 115 = .ok (.imul, 1) := by decide +kernel
theorem dX6_reverse_116 : decode cX6_reverse 116 = .ok (.aload_n 0, 1) := by decide +kernel
theorem dX6_reverse_117 : decode cX6_reverse 117 = .ok (.getfield 38, 3) := by decide +kernel
theorem dX6_reverse_120 : decode cX6_reverse 120 = .ok (.iload_n 2, 1) := by decide +kernel
theorem dX6_reverse_121 : decode cX6_reverse 121 = .ok (.baload, 1) := by decide +kernel
theorem dX6_reverse_122 : decode cX6_reverse 122 = .ok (.ifCond .eq 9, 3) := by decide +kernel
theorem dX6_reverse_125 : decode cX6_reverse 125 = .ok (.iload_n 3, 1) := by decide +kernel
theorem dX6_reverse_126 : decode cX6_reverse 126 = .ok (.iconst 2, 1) := by decide +kernel
theorem dX6_reverse_127 : decode cX6_reverse 127 = .ok (.iadd, 1) := by decide +kernel
theorem dX6_reverse_128 : decode cX6_reverse 128 = .ok (.goto 4, 3) := by decide +kernel
theorem dX6_reverse_131 : decode cX6_reverse 131 = .ok (.iload_n 3, 1) := by decide +kernel
theorem dX6_reverse_132 : decode cX6_reverse 132 = .ok (.iconst 4, 1) := by decide +kernel
theorem dX6_reverse_133 : decode cX6_reverse 133 = .ok (.irem, 1) := by decide +kernel
theorem dX6_reverse_134 : decode cX6_reverse 134 = .ok (.iadd, 1) := by decide +kernel
theorem dX6_reverse_135 : decode cX6_reverse 135 = .ok (.iaload, 1) := by decide +kernel
theorem dX6_reverse_136 : decode cX6_reverse 136 = .ok (.iastore, 1) := by decide +kernel
theorem dX6_reverse_137 : decode cX6_reverse 137 = .ok (.iinc 3 1, 3) := by decide +kernel
theorem dX6_reverse_140 : decode cX6_reverse 140 = .ok (.goto (-41), 3) := by decide +kernel
theorem dX6_reverse_143 : decode cX6_reverse 143 = .ok (.iconst 0, 1) := by decide +kernel
theorem dX6_reverse_144 : decode cX6_reverse 144 = .ok (.istore_n 3, 1) := by decide +kernel
theorem dX6_reverse_145 : decode cX6_reverse 145 = .ok (.iload_n 3, 1) := by decide +kernel
theorem dX6_reverse_146 : decode cX6_reverse 146 = .ok (.iconst 4, 1) := by decide +kernel
theorem dX6_reverse_147 : decode cX6_reverse 147 = .ok (.if_icmp .ge 25, 3) := by decide +kernel
theorem dX6_reverse_150 : decode cX6_reverse 150 = .ok (.aload_n 0, 1) := by decide +kernel
theorem dX6_reverse_151 : decode cX6_reverse 151 = .ok (.getfield 23, 3) := by decide +kernel
theorem dX6_reverse_154 : decode cX6_reverse 154 = .ok (.iconst 4, 1) := by decide +kernel
theorem dX6_reverse_155 : decode cX6_reverse 155 = .ok (.iload_n 2, 1) := by decide +kernel
theorem dX6_reverse_156 : decode cX6_reverse 156 = .ok (.imul, 1) := by decide +kernel
theorem dX6_reverse_157 : decode cX6_reverse 157 = .ok (.iload_n 3, 1) := by decide +kernel
theorem dX6_reverse_158 : decode cX6_reverse 158 = .ok (.iadd, 1) := by decide +kernel
theorem dX6_reverse_159 : decode cX6_reverse 159 = .ok (.aload_n 0, 1) := by decide +kernel
theorem dX6_reverse_160 : decode cX6_reverse 160 = .ok (.getfield 35, 3) := by decide +kernel
theorem dX6_reverse_163 : decode cX6_reverse 163 = .ok (.iload_n 3, 1) := by decide +kernel
theorem dX6_reverse_164 : decode cX6_reverse 164 = .ok (.iaload, 1) := by decide +kernel
theorem dX6_reverse_165 : decode cX6_reverse 165 = .ok (.iastore, 1) := by decide +kernel
theorem dX6_reverse_166 : decode cX6_reverse 166 = .ok (.iinc 3 1, 3) := by decide +kernel
theorem dX6_reverse_169 : decode cX6_reverse 169 = .ok (.goto (-24), 3) := by decide +kernel
theorem dX6_reverse_172 : decode cX6_reverse 172 = .ok (.aload_n 0, 1) := by decide +kernel
theorem dX6_reverse_173 : decode cX6_reverse 173 = .ok (.getfield 20, 3) := by decide +kernel
theorem dX6_reverse_176 : decode cX6_reverse 176 = .ok (.iload_n 2, 1) := by decide +kernel
theorem dX6_reverse_177 : decode cX6_reverse 177 = .ok (.aload_n 0, 1) := by decide +kernel
theorem dX6_reverse_178 : decode cX6_reverse 178 = .ok (.getfield 38, 3) := by decide +kernel
theorem dX6_reverse_181 : decode cX6_reverse 181 = .ok (.iload_n 2, 1) := by decide +kernel
theorem dX6_reverse_182 : decode cX6_reverse 182 = .ok (.baload, 1) := by decide +kernel
theorem dX6_reverse_183 : decode cX6_reverse 183 = .ok (.aload_n 0, 1) := by decide +kernel
theorem dX6_reverse_184 : decode cX6_reverse 184 = .ok (.getfield 42, 3) := by decide +kernel
theorem dX6_reverse_187 : decode cX6_reverse 187 = .ok (.iload_n 2, 1) := by decide +kernel
theorem dX6_reverse_188 : decode cX6_reverse 188 = .ok (.baload, 1) := by decide +kernel
theorem dX6_reverse_189 : decode cX6_reverse 189 = .ok (.if_icmp .ne 12, 3) := by decide +kernel
theorem dX6_reverse_192 : decode cX6_reverse 192 = .ok (.aload_n 0, 1) := by decide +kernel
theorem dX6_reverse_193 : decode cX6_reverse 193 = .ok (.getfield 20, 3) := by decide +kernel
theorem dX6_reverse_196 : decode cX6_reverse 196 = .ok (.iload_n 2, 1) := by decide +kernel
theorem dX6_reverse_197 : decode cX6_reverse 197 = .ok (.iaload, 1) := by decide +kernel
theorem dX6_reverse_198 : decode cX6_reverse 198 = .ok (.goto 10, 3) := by decide +kernel
theorem dX6_reverse_201 : decode cX6_reverse 201 = .ok (.aload_n 0, 1) := by decide +kernel
theorem dX6_reverse_202 : decode cX6_reverse 202 = .ok (.getfield 20, 3) := by decide +kernel
theorem dX6_reverse_205 : decode cX6_reverse 205 = .ok (.iload_n 2, 1) := by decide +kernel
theorem dX6_reverse_206 : decode cX6_reverse 206 = .ok (.iaload, 1) := by decide +kernel
theorem dX6_reverse_207 : decode cX6_reverse 207 = .ok (.ineg, 1) := by decide +kernel
theorem dX6_reverse_208 : decode cX6_reverse 208 = .ok (.iastore, 1) := by decide +kernel
theorem dX6_reverse_209 : decode cX6_reverse 209 = .ok (.iinc 2 1, 3) := by decide +kernel
theorem dX6_reverse_212 : decode cX6_reverse 212 = .ok (.goto (-123), 3) := by decide +kernel
theorem dX6_reverse_215 : decode cX6_reverse 215 = .ok (.iconst 1, 1) := by decide +kernel
theorem dX6_reverse_216 : decode cX6_reverse 216 = .ok (.ireturn, 1) := by decide +kernel
set_option maxRecDepth 20000 in
theorem ggX6_number_X6_components : GoodIn wsX6_number wsX6_components := goodIn_r _ [9, 10, 1, 11, 12, 13, 14, 15, 8, 16, 3, 4, 17, 18, 19, 20, 21, 22, 23, 24, 25, 26, 27, 28, 29, 30, 31, 32, 41, 42, 43, 44, 45, 46, 47, 48, 49, 50, 51, 52, 53, 54, 55, 56, 57, 58, 59, 60, 61, 62, 63] (by decide +kernel) (by decide +kernel)
set_option maxRecDepth 20000 in
theorem gX6_number_X6_components : GoodIn wsX6_number (wsV RX6 84 RX6 yX6_components wsX6_components) := goodIn_app (goodIn_of _ (by decide +kernel)) ggX6_number_X6_components
set_option maxRecDepth 20000 in
theorem ggX6_number_X6_beginning : GoodIn wsX6_number wsX6_beginning := goodIn_r _ [36, 11, 10, 12, 5, 6, 7, 8, 9, 1, 13, 14, 15, 16, 3, 4, 17, 18, 19, 20, 21, 22, 23, 24, 25, 26, 27, 28, 29, 30, 31, 32, 41, 42, 43, 44, 45, 46, 47, 48, 49, 50, 51, 52, 53, 54, 55, 56, 57, 58, 59, 60, 61, 62, 63] (by decide +kernel) (by decide +kernel)
set_option maxRecDepth 20000 in
theorem gX6_number_X6_beginning : GoodIn wsX6_number (wsV RX6 181 RX6 yX6_beginning wsX6_beginning) := goodIn_app (goodIn_of _ (by decide +kernel)) ggX6_number_X6_beginning
set_option maxRecDepth 20000 in
theorem ggX6_number_X6_edgesOf : GoodIn wsX6_number wsX6_edgesOf := goodIn_r _ [40, 26, 27, 28, 8, 29, 4, 17, 18, 19, 20, 3, 21, 22, 23, 24, 25, 30, 31, 32, 41, 42, 43, 44, 45, 46, 47, 48, 49, 50, 51, 52, 53, 54, 55, 56, 57, 58, 59, 60, 61, 62, 63] (by decide +kernel) (by decide +kernel)
set_option maxRecDepth 20000 in
theorem gX6_number_X6_edgesOf : GoodIn wsX6_number (wsV RX6 184 RX6 yX6_edgesOf wsX6_edgesOf) := goodIn_app (goodIn_of _ (by decide +kernel)) ggX6_number_X6_edgesOf
set_option maxRecDepth 20000 in
theorem ggX6_number_X6_placeOf : GoodIn wsX6_number wsX6_placeOf := goodIn_r _ [20, 3, 4, 21, 22, 23, 8, 24, 25, 41, 42, 43, 44, 45, 46, 47, 48, 49, 50, 51, 52, 53, 54, 55, 56, 57, 58, 59, 60, 61, 62, 63] (by decide +kernel) (by decide +kernel)
set_option maxRecDepth 20000 in
theorem gX6_number_X6_placeOf : GoodIn wsX6_number (wsV RX6 64 RX6 yX6_placeOf wsX6_placeOf) := goodIn_app (goodIn_of _ (by decide +kernel)) ggX6_number_X6_placeOf
set_option maxRecDepth 20000 in
theorem ggX6_number_X6_next : GoodIn wsX6_number wsX6_next := goodIn_r _ [29, 4, 17, 18, 19, 8, 20, 3, 21, 22, 23, 24, 25, 30, 31, 32, 41, 42, 43, 44, 45, 46, 47, 48, 49, 50, 51, 52, 53, 54, 55, 56, 57, 58, 59, 60, 61, 62, 63] (by decide +kernel) (by decide +kernel)
set_option maxRecDepth 20000 in
theorem gX6_number_X6_next : GoodIn wsX6_number (wsV RX6 81 RX6 yX6_next wsX6_next) := goodIn_app (goodIn_of _ (by decide +kernel)) ggX6_number_X6_next
theorem dX6_number_0 : decode cX6_number 0 = .ok (.aload_n 0, 1) := by decide +kernel
theorem dX6_number_1 : decode cX6_number 1 = .ok (.invokevirtual 84, 3) := by decide +kernel
theorem dX6_number_4 : decode cX6_number 4 = .ok (.aload_n 0, 1) := by decide +kernel
theorem dX6_number_5 : decode cX6_number 5 = .ok (.getfield 75, 3) := by decide +kernel
theorem dX6_number_8 : decode cX6_number 8 = .ok (.istore_n 1, 1) := by decide +kernel
theorem dX6_number_9 : decode cX6_number 9 = .ok (.iconst 0, 1) := by decide +kernel
theorem dX6_number_10 : decode cX6_number 10 = .ok (.istore_n 2, 1) := by decide +kernel
theorem dX6_number_11 : decode cX6_number 11 = .ok (.iconst 0, 1) := by decide +kernel
theorem dX6_number_12 : decode cX6_number 12 = .ok (.istore_n 3, 1) := by decide +kernel
theorem dX6_number_13 : decode cX6_number 13 = .ok (.iload_n 3, 1) := by decide +kernel
theorem dX6_number_14 : decode cX6_number 14 = .ok (.iload_n 1, 1) := by decide +kernel
theorem dX6_number_15 : decode cX6_number 15 = .ok (.if_icmp .ge 77, 3) := by decide +kernel
theorem dX6_number_18 : decode cX6_number 18 = .ok (.aload_n 0, 1) := by decide +kernel
theorem dX6_number_19 : decode cX6_number 19 = .ok (.iload_n 3, 1) := by decide +kernel
theorem dX6_number_20 : decode cX6_number 20 = .ok (.invokevirtual 181, 3) := by decide +kernel
theorem dX6_number_23 : decode cX6_number 23 = .ok (.istore 4, 2) := by decide +kernel
theorem dX6_number_25 : decode cX6_number 25 = .ok (.aload_n 0, 1) := by decide +kernel
theorem dX6_number_26 : decode cX6_number 26 = .ok (.iload 4, 2) := by decide +kernel
theorem dX6_number_28 : decode cX6_number 28 = .ok (.invokevirtual 184, 3) := by decide +kernel
theorem dX6_number_31 : decode cX6_number 31 = .ok (.istore 5, 2) := by decide +kernel
theorem dX6_number_33 : decode cX6_number 33 = .ok (.iconst 0, 1) := by decide +kernel
theorem dX6_number_34 : decode cX6_number 34 = .ok (.istore 6, 2) := by decide +kernel
theorem dX6_number_36 : decode cX6_number 36 = .ok (.iload 6, 2) := by decide +kernel
theorem dX6_number_38 : decode cX6_number 38 = .ok (.iload 5, 2) := by decide +kernel
theorem dX6_number_40 : decode cX6_number 40 = .ok (.if_icmp .ge 46, 3) := by decide +kernel
theorem dX6_number_43 : decode cX6_number 43 = .ok (.iinc 2 1, 3) := by decide +kernel
theorem dX6_number_46 : decode cX6_number 46 = .ok (.aload_n 0, 1) := by decide +kernel
theorem dX6_number_47 : decode cX6_number 47 = .ok (.getfield 35, 3) := by decide +kernel
theorem dX6_number_50 : decode cX6_number 50 = .ok (.aload_n 0, 1) := by decide +kernel
theorem dX6_number_51 : decode cX6_number 51 = .ok (.iload 4, 2) := by decide +kernel
theorem dX6_number_53 : decode cX6_number 53 = .ok (.iconst 1, 1) := by decide +kernel
theorem dX6_number_54 : decode cX6_number 54 = .ok (.invokevirtual 64, 3) := by decide +kernel
theorem dX6_number_57 : decode cX6_number 57 = .ok (.iload_n 2, 1) := by decide +kernel
theorem dX6_number_58 : decode cX6_number 58 = .ok (.iastore, 1) := by decide +kernel
theorem dX6_number_59 : decode cX6_number 59 = .ok (.aload_n 0, 1) := by decide +kernel
theorem dX6_number_60 : decode cX6_number 60 = .ok (.getfield 35, 3) := by decide +kernel
theorem dX6_number_63 : decode cX6_number 63 = .ok (.aload_n 0, 1) := by decide +kernel
theorem dX6_number_64 : decode cX6_number 64 = .ok (.iload 4, 2) := by decide +kernel
theorem dX6_number_66 : decode cX6_number 66 = .ok (.iconst 0, 1) := by decide +kernel
theorem dX6_number_67 : decode cX6_number 67 = .ok (.invokevirtual 64, 3) := by decide +kernel
theorem dX6_number_70 : decode cX6_number 70 = .ok (.iload_n 2, 1) := by decide +kernel
theorem dX6_number_71 : decode cX6_number 71 = .ok (.iastore, 1) := by decide +kernel
theorem dX6_number_72 : decode cX6_number 72 = .ok (.aload_n 0, 1) := by decide +kernel
theorem dX6_number_73 : decode cX6_number 73 = .ok (.iload 4, 2) := by decide +kernel
theorem dX6_number_75 : decode cX6_number 75 = .ok (.invokevirtual 81, 3) := by decide +kernel
theorem dX6_number_78 : decode cX6_number 78 = .ok (.istore 4, 2) := by decide +kernel
theorem dX6_number_80 : decode cX6_number 80 = .ok (.iinc 6 1, 3) := by decide +kernel
theorem dX6_number_83 : decode cX6_number 83 = .ok (.goto (-47), 3) := by decide +kernel
theorem dX6_number_86 : decode cX6_number 86 = .ok (.iinc 3 1, 3) := by decide +kernel
theorem dX6_number_89 : decode cX6_number 89 = .ok (.goto (-76), 3) := by decide +kernel
theorem dX6_number_92 : decode cX6_number 92 = .ok (.iconst 0, 1) := by decide +kernel
theorem dX6_number_93 : decode cX6_number 93 = .ok (.istore_n 3, 1) := by decide +kernel
theorem dX6_number_94 : decode cX6_number 94 = .ok (.iload_n 3, 1) := by decide +kernel
theorem dX6_number_95 : decode cX6_number 95 = .ok (.iconst 4, 1) := by decide +kernel
theorem dX6_number_96 : decode cX6_number 96 = .ok (.aload_n 0, 1) := by decide +kernel
theorem dX6_number_97 : decode cX6_number 97 = .ok (.getfield 57, 3) := by decide +kernel
theorem dX6_number_100 : decode cX6_number 100 = .ok (.imul, 1) := by decide +kernel
theorem dX6_number_101 : decode cX6_number 101 = .ok (.if_icmp .ge 21, 3) := by decide +kernel
theorem dX6_number_104 : decode cX6_number 104 = .ok (.aload_n 0, 1) := by decide +kernel
theorem dX6_number_105 : decode cX6_number 105 = .ok (.getfield 23, 3) := by decide +kernel
theorem dX6_number_108 : decode cX6_number 108 = .ok (.iload_n 3, 1) := by decide +kernel
theorem dX6_number_109 : decode cX6_number 109 = .ok (.aload_n 0, 1) := by decide +kernel
theorem dX6_number_110 : decode cX6_number 110 = .ok (.getfield 35, 3) := by decide +kernel
theorem dX6_number_113 : decode cX6_number 113 = .ok (.iload_n 3, 1) := by decide +kernel
theorem dX6_number_114 : decode cX6_number 114 = .ok (.iaload, 1) := by decide +kernel
theorem dX6_number_115 : decode cX6_number 115 = .ok (.iastore, 1) := by decide +kernel
theorem dX6_number_116 : decode cX6_number 116 = .ok (.iinc 3 1, 3) := by decide +kernel
theorem dX6_number_119 : decode cX6_number 119 = .ok (.goto (-25), 3) := by decide +kernel
theorem dX6_number_122 : decode cX6_number 122 = .ok (.return_, 1) := by decide +kernel
theorem dX6_rename_0 : decode cX6_rename 0 = .ok (.iconst 0, 1) := by decide +kernel
theorem dX6_rename_1 : decode cX6_rename 1 = .ok (.istore_n 3, 1) := by decide +kernel
theorem dX6_rename_2 : decode cX6_rename 2 = .ok (.iload_n 3, 1) := by decide +kernel
theorem dX6_rename_3 : decode cX6_rename 3 = .ok (.iconst 4, 1) := by decide +kernel
theorem dX6_rename_4 : decode cX6_rename 4 = .ok (.aload_n 0, 1) := by decide +kernel
theorem dX6_rename_5 : decode cX6_rename 5 = .ok (.getfield 57, 3) := by decide +kernel
theorem dX6_rename_8 : decode cX6_rename 8 = .ok (.imul, 1) := by decide +kernel
theorem dX6_rename_9 : decode cX6_rename 9 = .ok (.if_icmp .ge 35, 3) := by decide +kernel
theorem dX6_rename_12 : decode cX6_rename 12 = .ok (.aload_n 0, 1) := by decide +kernel
theorem dX6_rename_13 : decode cX6_rename 13 = .ok (.getfield 23, 3) := by decide +kernel
theorem dX6_rename_16 : decode cX6_rename 16 = .ok (.iload_n 3, 1) := by decide +kernel
theorem dX6_rename_17 : decode cX6_rename 17 = .ok (.aload_n 0, 1) := by decide +kernel
theorem dX6_rename_18 : decode cX6_rename 18 = .ok (.getfield 23, 3) := by decide +kernel
theorem dX6_rename_21 : decode cX6_rename 21 = .ok (.iload_n 3, 1) := by decide +kernel
theorem dX6_rename_22 : decode cX6_rename 22 = .ok (.iaload, 1) := by decide +kernel
theorem dX6_rename_23 : decode cX6_rename 23 = .ok (.iload_n 1, 1) := by decide +kernel
theorem dX6_rename_24 : decode cX6_rename 24 = .ok (.if_icmp .ne 7, 3) := by decide +kernel
theorem dX6_rename_27 : decode cX6_rename 27 = .ok (.iload_n 2, 1) := by decide +kernel
theorem dX6_rename_28 : decode cX6_rename 28 = .ok (.goto 9, 3) := by decide +kernel
theorem dX6_rename_31 : decode cX6_rename 31 = .ok (.aload_n 0, 1) := by decide +kernel
theorem dX6_rename_32 : decode cX6_rename 32 = .ok (.getfield 23, 3) := by decide +kernel
theorem dX6_rename_35 : decode cX6_rename 35 = .ok (.iload_n 3, 1) := by decide +kernel
theorem dX6_rename_36 : decode cX6_rename 36 = .ok (.iaload, 1) := by decide +kernel
theorem dX6_rename_37 : decode cX6_rename 37 = .ok (.iastore, 1) := by decide +kernel
theorem dX6_rename_38 : decode cX6_rename 38 = .ok (.iinc 3 1, 3) := by decide +kernel
theorem dX6_rename_41 : decode cX6_rename 41 = .ok (.goto (-39), 3) := by decide +kernel
theorem dX6_rename_44 : decode cX6_rename 44 = .ok (.iconst 0, 1) := by decide +kernel
theorem dX6_rename_45 : decode cX6_rename 45 = .ok (.istore_n 3, 1) := by decide +kernel
theorem dX6_rename_46 : decode cX6_rename 46 = .ok (.iload_n 3, 1) := by decide +kernel
theorem dX6_rename_47 : decode cX6_rename 47 = .ok (.iconst 4, 1) := by decide +kernel
theorem dX6_rename_48 : decode cX6_rename 48 = .ok (.if_icmp .ge 35, 3) := by decide +kernel
theorem dX6_rename_51 : decode cX6_rename 51 = .ok (.aload_n 0, 1) := by decide +kernel
theorem dX6_rename_52 : decode cX6_rename 52 = .ok (.getfield 35, 3) := by decide +kernel
theorem dX6_rename_55 : decode cX6_rename 55 = .ok (.iload_n 3, 1) := by decide +kernel
theorem dX6_rename_56 : decode cX6_rename 56 = .ok (.aload_n 0, 1) := by decide +kernel
theorem dX6_rename_57 : decode cX6_rename 57 = .ok (.getfield 35, 3) := by decide +kernel
theorem dX6_rename_60 : decode cX6_rename 60 = .ok (.iload_n 3, 1) := by decide +kernel
theorem dX6_rename_61 : decode cX6_rename 61 = .ok (.iaload, 1) := by decide +kernel
theorem dX6_rename_62 : decode cX6_rename 62 = .ok (.iload_n 1, 1) := by decide +kernel
theorem dX6_rename_63 : decode cX6_rename 63 = .ok (.if_icmp .ne 7, 3) := by decide +kernel
theorem dX6_rename_66 : decode cX6_rename 66 = .ok (.iload_n 2, 1) := by decide +kernel
theorem dX6_rename_67 : decode cX6_rename 67 = .ok (.goto 9, 3) := by decide +kernel
theorem dX6_rename_70 : decode cX6_rename 70 = .ok (.aload_n 0, 1) := by decide +kernel
theorem dX6_rename_71 : decode cX6_rename 71 = .ok (.getfield 35, 3) := by decide +kernel
theorem dX6_rename_74 : decode cX6_rename 74 = .ok (.iload_n 3, 1) := by decide +kernel
theorem dX6_rename_75 : decode cX6_rename 75 = .ok (.iaload, 1) := by decide +kernel
theorem dX6_rename_76 : decode cX6_rename 76 = .ok (.iastore, 1) := by decide +kernel
theorem dX6_rename_77 : decode cX6_rename 77 = .ok (.iinc 3 1, 3) := by decide +kernel
theorem dX6_rename_80 : decode cX6_rename 80 = .ok (.goto (-34), 3) := by decide +kernel
theorem dX6_rename_83 : decode cX6_rename 83 = .ok (.return_, 1) := by decide +kernel
set_option maxRecDepth 20000 in
theorem ggX6_join_X6_rename : GoodIn wsX6_join wsX6_rename := goodIn_r _ [6, 7, 8, 9, 10, 11, 12, 13, 14, 15, 16, 17, 18, 19, 20, 21, 22, 23, 24, 25, 26, 27, 28, 29, 30, 31, 32] (by decide +kernel) (by decide +kernel)
set_option maxRecDepth 20000 in
theorem gX6_join_X6_rename : GoodIn wsX6_join (wsV RX6 190 RX6 yX6_rename wsX6_rename) := goodIn_app (goodIn_of _ (by decide +kernel)) ggX6_join_X6_rename
theorem dX6_join_0 : decode cX6_join 0 = .ok (.iload_n 1, 1) := by decide +kernel
theorem dX6_join_1 : decode cX6_join 1 = .ok (.iload_n 2, 1) := by decide +kernel
theorem dX6_join_2 : decode cX6_join 2 = .ok (.if_icmp .ne 16, 3) := by decide +kernel
theorem dX6_join_5 : decode cX6_join 5 = .ok (.aload_n 0, 1) := by decide +kernel
theorem dX6_join_6 : decode cX6_join 6 = .ok (.dup, 1) := by decide +kernel
theorem dX6_join_7 : decode cX6_join 7 = .ok (.getfield 105, 3) := by decide +kernel
theorem dX6_join_10 : decode cX6_join 10 = .ok (.iconst 1, 1) := by decide +kernel
theorem dX6_join_11 : decode cX6_join 11 = .ok (.iadd, 1) := by decide +kernel
theorem dX6_join_12 : decode cX6_join 12 = .ok (.putfield 105, 3) := by decide +kernel
theorem dX6_join_15 : decode cX6_join 15 = .ok (.goto 27, 3) := by decide +kernel
theorem dX6_join_18 : decode cX6_join 18 = .ok (.aload_n 0, 1) := by decide +kernel
theorem dX6_join_19 : decode cX6_join 19 = .ok (.iload_n 1, 1) := by decide +kernel
theorem dX6_join_20 : decode cX6_join 20 = .ok (.iload_n 2, 1) := by decide +kernel
theorem dX6_join_21 : decode cX6_join 21 = .ok (.if_icmp .ge 7, 3) := by decide +kernel
theorem dX6_join_24 : decode cX6_join 24 = .ok (.iload_n 2, 1) := by decide +kernel
theorem dX6_join_25 : decode cX6_join 25 = .ok (.goto 4, 3) := by decide +kernel
theorem dX6_join_28 : decode cX6_join 28 = .ok (.iload_n 1, 1) := by decide +kernel
theorem dX6_join_29 : decode cX6_join 29 = .ok (.iload_n 1, 1) := by decide +kernel
theorem dX6_join_30 : decode cX6_join 30 = .ok (.iload_n 2, 1) := by decide +kernel
theorem dX6_join_31 : decode cX6_join 31 = .ok (.if_icmp .ge 7, 3) := by decide +kernel
theorem dX6_join_34 : decode cX6_join 34 = .ok (.iload_n 1, 1) := by decide +kernel
theorem dX6_join_35 : decode cX6_join 35 = .ok (.goto 4, 3) := by decide +kernel
theorem dX6_join_38 : decode cX6_join 38 = .ok (.iload_n 2, 1) := by decide +kernel
theorem dX6_join_39 : decode cX6_join 39 = .ok (.invokevirtual 190, 3) := by decide +kernel
theorem dX6_join_42 : decode cX6_join 42 = .ok (.return_, 1) := by decide +kernel
set_option maxRecDepth 20000 in
theorem ggX6_smooth_X6_upperIn : GoodIn wsX6_smooth wsX6_upperIn := goodIn_r _ [9, 4, 19, 20, 21, 22, 23, 24, 25, 26, 27, 28, 29, 30, 31, 32, 33, 34, 35, 36, 37, 38, 39, 40, 41] (by decide +kernel) (by decide +kernel)
set_option maxRecDepth 20000 in
theorem gX6_smooth_X6_upperIn : GoodIn wsX6_smooth (wsV RX6 140 RX6 yX6_upperIn wsX6_upperIn) := goodIn_app (goodIn_of _ (by decide +kernel)) ggX6_smooth_X6_upperIn
set_option maxRecDepth 20000 in
theorem ggX6_smooth_X6_join : GoodIn wsX6_smooth wsX6_join := goodIn_r _ [13, 14, 15, 16, 17, 8, 18, 1, 3, 2, 19, 20, 21, 22, 23, 24, 25, 26, 27, 28, 29, 30, 31, 32, 33, 34, 35, 36, 37, 38, 39, 40, 41] (by decide +kernel) (by decide +kernel)
set_option maxRecDepth 20000 in
theorem gX6_smooth_X6_join : GoodIn wsX6_smooth (wsV RX6 194 RX6 yX6_join wsX6_join) := goodIn_app (goodIn_of _ (by decide +kernel)) ggX6_smooth_X6_join
theorem dX6_smooth_0 : decode cX6_smooth 0 = .ok (.iload_n 1, 1) := by decide +kernel
theorem dX6_smooth_1 : decode cX6_smooth 1 = .ok (.ifCond .lt 11, 3) := by decide +kernel
theorem dX6_smooth_4 : decode cX6_smooth 4 = .ok (.iload_n 1, 1) := by decide +kernel
theorem dX6_smooth_5 : decode cX6_smooth 5 = .ok (.aload_n 0, 1) := by decide +kernel
theorem dX6_smooth_6 : decode cX6_smooth 6 = .ok (.getfield 57, 3) := by decide +kernel
theorem dX6_smooth_9 : decode cX6_smooth 9 = .ok (.if_icmp .lt 5, 3) := by decide +kernel
theorem dX6_smooth_12 : decode cX6_smooth 12 = .ok (.iconst 0, 1) := by decide +kernel
theorem dX6_smooth_13 : decode cX6_smooth 13 = .ok (.ireturn, 1) := by decide +kernel
theorem dX6_smooth_14 : decode cX6_smooth 14 = .ok (.aload_n 0, 1) := by decide +kernel
theorem dX6_smooth_15 : decode cX6_smooth 15 = .ok (.iload_n 1, 1) := by decide +kernel
theorem dX6_smooth_16 : decode cX6_smooth 16 = .ok (.invokevirtual 140, 3) := by decide +kernel
theorem dX6_smooth_19 : decode cX6_smooth 19 = .ok (.istore_n 2, 1) := by decide +kernel
theorem dX6_smooth_20 : decode cX6_smooth 20 = .ok (.aload_n 0, 1) := by decide +kernel
theorem dX6_smooth_21 : decode cX6_smooth 21 = .ok (.getfield 35, 3) := by decide +kernel
theorem dX6_smooth_24 : decode cX6_smooth 24 = .ok (.iconst 0, 1) := by decide +kernel
theorem dX6_smooth_25 : decode cX6_smooth 25 = .ok (.aload_n 0, 1) := by decide +kernel
theorem dX6_smooth_26 : decode cX6_smooth 26 = .ok (.getfield 23, 3) := by decide +kernel
theorem dX6_smooth_29 : decode cX6_smooth 29 = .ok (.iconst 4, 1) := by decide +kernel
theorem dX6_smooth_30 : decode cX6_smooth 30 = .ok (.iload_n 1, 1) := by decide +kernel
theorem dX6_smooth_31 : decode cX6_smooth 31 = .ok (.imul, 1) := by decide +kernel
theorem dX6_smooth_32 : decode cX6_smooth 32 = .ok (.iaload, 1) := by decide +kernel
theorem dX6_smooth_33 : decode cX6_smooth 33 = .ok (.iastore, 1) := by decide +kernel
theorem dX6_smooth_34 : decode cX6_smooth 34 = .ok (.aload_n 0, 1) := by decide +kernel
theorem dX6_smooth_35 : decode cX6_smooth 35 = .ok (.getfield 35, 3) := by decide +kernel
theorem dX6_smooth_38 : decode cX6_smooth 38 = .ok (.iconst 1, 1) := by decide +kernel
theorem dX6_smooth_39 : decode cX6_smooth 39 = .ok (.aload_n 0, 1) := by decide +kernel
theorem dX6_smooth_40 : decode cX6_smooth 40 = .ok (.getfield 23, 3) := by decide +kernel
theorem dX6_smooth_43 : decode cX6_smooth 43 = .ok (.iconst 4, 1) := by decide +kernel
theorem dX6_smooth_44 : decode cX6_smooth 44 = .ok (.iload_n 1, 1) := by decide +kernel
theorem dX6_smooth_45 : decode cX6_smooth 45 = .ok (.imul, 1) := by decide +kernel
theorem dX6_smooth_46 : decode cX6_smooth 46 = .ok (.iload_n 2, 1) := by decide +kernel
theorem dX6_smooth_47 : decode cX6_smooth 47 = .ok (.iconst 2, 1) := by decide +kernel
theorem dX6_smooth_48 : decode cX6_smooth 48 = .ok (.iadd, 1) := by decide +kernel
theorem dX6_smooth_49 : decode cX6_smooth 49 = .ok (.iconst 4, 1) := by decide +kernel
theorem dX6_smooth_50 : decode cX6_smooth 50 = .ok (.irem, 1) := by decide +kernel
theorem dX6_smooth_51 : decode cX6_smooth 51 = .ok (.iadd, 1) := by decide +kernel
theorem dX6_smooth_52 : decode cX6_smooth 52 = .ok (.iaload, 1) := by decide +kernel
theorem dX6_smooth_53 : decode cX6_smooth 53 = .ok (.iastore, 1) := by decide +kernel
theorem dX6_smooth_54 : decode cX6_smooth 54 = .ok (.aload_n 0, 1) := by decide +kernel
theorem dX6_smooth_55 : decode cX6_smooth 55 = .ok (.getfield 35, 3) := by decide +kernel
theorem dX6_smooth_58 : decode cX6_smooth 58 = .ok (.iconst 2, 1) := by decide +kernel
theorem dX6_smooth_59 : decode cX6_smooth 59 = .ok (.aload_n 0, 1) := by decide +kernel
theorem dX6_smooth_60 : decode cX6_smooth 60 = .ok (.getfield 23, 3) := by decide +kernel
theorem dX6_smooth_63 : decode cX6_smooth 63 = .ok (.iconst 4, 1) := by decide +kernel
theorem dX6_smooth_64 : decode cX6_smooth 64 = .ok (.iload_n 1, 1) := by decide +kernel
theorem dX6_smooth_65 : decode cX6_smooth 65 = .ok (.imul, 1) := by decide +kernel
theorem dX6_smooth_66 : decode cX6_smooth 66 = .ok (.iload_n 2, 1) := by decide +kernel
theorem dX6_smooth_67 : decode cX6_smooth 67 = .ok (.iadd, 1) := by decide +kernel
theorem dX6_smooth_68 : decode cX6_smooth 68 = .ok (.iaload, 1) := by decide +kernel
theorem dX6_smooth_69 : decode cX6_smooth 69 = .ok (.iastore, 1) := by decide +kernel
theorem dX6_smooth_70 : decode cX6_smooth 70 = .ok (.aload_n 0, 1) := by decide +kernel
theorem dX6_smooth_71 : decode cX6_smooth 71 = .ok (.getfield 35, 3) := by decide +kernel
theorem dX6_smooth_74 : decode cX6_smooth 74 = .ok (.iconst 3, 1) := by decide +kernel
theorem dX6_smooth_75 : decode cX6_smooth 75 = .ok (.aload_n 0, 1) := by decide +kernel
theorem dX6_smooth_76 : decode cX6_smooth 76 = .ok (.getfield 23, 3) := by decide +kernel
theorem dX6_smooth_79 : decode cX6_smooth 79 = .ok (.iconst 4, 1) := by decide +kernel
theorem dX6_smooth_80 : decode cX6_smooth 80 = .ok (.iload_n 1, 1) := by decide +kernel
theorem dX6_smooth_81 : decode cX6_smooth 81 = .ok (.imul, 1) := by decide +kernel
theorem dX6_smooth_82 : decode cX6_smooth 82 = .ok (.iconst 2, 1) := by decide +kernel
theorem dX6_smooth_83 : decode cX6_smooth 83 = .ok (.iadd, 1) := by decide +kernel
theorem dX6_smooth_84 : decode cX6_smooth 84 = .ok (.iaload, 1) := by decide +kernel
theorem dX6_smooth_85 : decode cX6_smooth 85 = .ok (.iastore, 1) := by decide +kernel
theorem dX6_smooth_86 : decode cX6_smooth 86 = .ok (.aload_n 0, 1) := by decide +kernel
theorem dX6_smooth_87 : decode cX6_smooth 87 = .ok (.dup, 1) := by decide +kernel
theorem dX6_smooth_88 : decode cX6_smooth 88 = .ok (.getfield 57, 3) := by decide +kernel
theorem dX6_smooth_91 : decode cX6_smooth 91 = .ok (.iconst 1, 1) := by decide +kernel
theorem dX6_smooth_92 : decode cX6_smooth 92 = .ok (.isub, 1) := by decide +kernel
theorem dX6_smooth_93 : decode cX6_smooth 93 = .ok (.putfield 57, 3) := by decide +kernel
theorem dX6_smooth_96 : decode cX6_smooth 96 = .ok (.iload_n 1, 1) := by decide +kernel
theorem dX6_smooth_97 : decode cX6_smooth 97 = .ok (.istore_n 3, 1) := by decide +kernel
theorem dX6_smooth_98 : decode cX6_smooth 98 = .ok (.iload_n 3, 1) := by decide +kernel
theorem dX6_smooth_99 : decode cX6_smooth 99 = .ok (.aload_n 0, 1) := by decide +kernel
theorem dX6_smooth_100 : decode cX6_smooth 100 = .ok (.getfield 57, 3) := by decide +kernel
theorem dX6_smooth_103 : decode cX6_smooth 103 = .ok (.if_icmp .ge 62, 3) := by decide +kernel
theorem dX6_smooth_106 : decode cX6_smooth 106 = .ok (.aload_n 0, 1) := by decide +kernel
theorem dX6_smooth_107 : decode cX6_smooth 107 = .ok (.getfield 20, 3) := by decide +kernel
theorem dX6_smooth_110 : decode cX6_smooth 110 = .ok (.iload_n 3, 1) := by decide +kernel
theorem dX6_smooth_111 : decode cX6_smooth 111 = .ok (.aload_n 0, 1) := by decide +kernel
theorem dX6_smooth_112 : decode cX6_smooth 112 = .ok (.getfield 20, 3) := by decide +kernel
theorem dX6_smooth_115 : decode cX6_smooth 115 = .ok (.iload_n 3, 1) := by decide +kernel
theorem dX6_smooth_116 : decode cX6_smooth 116 = .ok (.iconst 1, 1) := by decide +kernel
theorem dX6_smooth_117 : decode cX6_smooth 117 = .ok (.iadd, 1) := by decide +kernel
theorem dX6_smooth_118 : decode cX6_smooth 118 = .ok (.iaload, 1) := by decide +kernel
theorem dX6_smooth_119 : decode cX6_smooth 119 = .ok (.iastore, 1) := by decide +kernel
theorem dX6_smooth_120 : decode cX6_smooth 120 = .ok (.iconst 0, 1) := by decide +kernel
theorem dX6_smooth_121 : decode cX6_smooth 121 = .ok (.istore 4, 2) := by decide +kernel
theorem dX6_smooth_123 : decode cX6_smooth 123 = .ok (.iload 4, 2) := by decide +kernel
theorem dX6_smooth_125 : decode cX6_smooth 125 = .ok (.iconst 4, 1) := by decide +kernel
theorem dX6_smooth_126 : decode cX6_smooth 126 = .ok (.if_icmp .ge 33, 3) := by decide +kernel
theorem dX6_smooth_129 : decode cX6_smooth 129 = .ok (.aload_n 0, 1) := by decide +kernel
theorem dX6_smooth_130 : decode cX6_smooth 130 = .ok (.getfield 23, 3) := by decide +kernel
theorem dX6_smooth_133 : decode cX6_smooth 133 = .ok (.iconst 4, 1) := by decide +kernel
theorem dX6_smooth_134 : decode cX6_smooth 134 = .ok (.iload_n 3, 1) := by decide +kernel
theorem dX6_smooth_135 : decode cX6_smooth 135 = .ok (.imul, 1) := by decide +kernel
theorem dX6_smooth_136 : decode cX6_smooth 136 = .ok (.iload 4, 2) := by decide +kernel
theorem dX6_smooth_138 : decode cX6_smooth 138 = .ok (.iadd, 1) := by decide +kernel
theorem dX6_smooth_139 : decode cX6_smooth 139 = .ok (.aload_n 0, 1) := by decide +kernel
theorem dX6_smooth_140 : decode cX6_smooth 140 = .ok (.getfield 23, 3) := by decide +kernel
theorem dX6_smooth_143 : decode cX6_smooth 143 = .ok (.iconst 4, 1) := by decide +kernel
theorem dX6_smooth_144 : decode cX6_smooth 144 = .ok (.iload_n 3, 1) := by decide +kernel
theorem dX6_smooth_145 : decode cX6_smooth 145 = .ok (.imul, 1) := by decide +kernel
theorem dX6_smooth_146 : decode cX6_smooth 146 = .ok (.iconst 4, 1) := by decide +kernel
theorem dX6_smooth_147 : decode cX6_smooth 147 = .ok (.iadd, 1) := by decide +kernel
theorem dX6_smooth_148 : decode cX6_smooth 148 = .ok (.iload 4, 2) := by decide +kernel
theorem dX6_smooth_150 : decode cX6_smooth 150 = .ok (.iadd, 1) := by decide +kernel
theorem dX6_smooth_151 : decode cX6_smooth 151 = .ok (.iaload, 1) := by decide +kernel
theorem dX6_smooth_152 : decode cX6_smooth 152 = .ok (.iastore, 1) := by decide +kernel
theorem dX6_smooth_153 : decode cX6_smooth 153 = .ok (.iinc 4 1, 3) := by decide +kernel
theorem dX6_smooth_156 : decode cX6_smooth 156 = .ok (.goto (-33), 3) := by decide +kernel
theorem dX6_smooth_159 : decode cX6_smooth 159 = .ok (.iinc 3 1, 3) := by decide +kernel
theorem dX6_smooth_162 : decode cX6_smooth 162 = .ok (.goto (-64), 3) := by decide +kernel
theorem dX6_smooth_165 : decode cX6_smooth 165 = .ok (.aload_n 0, 1) := by decide +kernel
theorem dX6_smooth_166 : decode cX6_smooth 166 = .ok (.aload_n 0, 1) := by decide +kernel
theorem dX6_smooth_167 : decode cX6_smooth 167 = .ok (.getfield 35, 3) := by decide +kernel
theorem dX6_smooth_170 : decode cX6_smooth 170 = .ok (.iconst 0, 1) := by decide +kernel
theorem dX6_smooth_171 : decode cX6_smooth 171 = .ok (.iaload, 1) := by decide +kernel
theorem dX6_smooth_172 : decode cX6_smooth 172 = .ok (.aload_n 0, 1) := by decide +kernel
theorem dX6_smooth_173 : decode cX6_smooth 173 = .ok (.getfield 35, 3) := by decide +kernel
theorem dX6_smooth_176 : decode cX6_smooth 176 = .ok (.iconst 1, 1) := by decide +kernel
theorem dX6_smooth_177 : decode cX6_smooth 177 = .ok (.iaload, 1) := by decide +kernel
theorem dX6_smooth_178 : decode cX6_smooth 178 = .ok (.invokevirtual 194, 3) := by decide +kernel
theorem dX6_smooth_181 : decode cX6_smooth 181 = .ok (.aload_n 0, 1) := by decide +kernel
theorem dX6_smooth_182 : decode cX6_smooth 182 = .ok (.aload_n 0, 1) := by decide +kernel
theorem dX6_smooth_183 : decode cX6_smooth 183 = .ok (.getfield 35, 3) := by decide +kernel
theorem dX6_smooth_186 : decode cX6_smooth 186 = .ok (.iconst 2, 1) := by decide +kernel
theorem dX6_smooth_187 : decode cX6_smooth 187 = .ok (.iaload, 1) := by decide +kernel
theorem dX6_smooth_188 : decode cX6_smooth 188 = .ok (.aload_n 0, 1) := by decide +kernel
theorem dX6_smooth_189 : decode cX6_smooth 189 = .ok (.getfield 35, 3) := by decide +kernel
theorem dX6_smooth_192 : decode cX6_smooth 192 = .ok (.iconst 3, 1) := by decide +kernel
theorem dX6_smooth_193 : decode cX6_smooth 193 = .ok (.iaload, 1) := by decide +kernel
theorem dX6_smooth_194 : decode cX6_smooth 194 = .ok (.invokevirtual 194, 3) := by decide +kernel
theorem dX6_smooth_197 : decode cX6_smooth 197 = .ok (.iconst 1, 1) := by decide +kernel
theorem dX6_smooth_198 : decode cX6_smooth 198 = .ok (.ireturn, 1) := by decide +kernel
theorem dJ9_max_7cf53_0 : decode cJ9_max_7cf53 0 = .ok (.iload_n 0, 1) := by decide +kernel
theorem dJ9_max_7cf53_1 : decode cJ9_max_7cf53 1 = .ok (.iload_n 1, 1) := by decide +kernel
theorem dJ9_max_7cf53_2 : decode cJ9_max_7cf53 2 = .ok (.if_icmp .lt 7, 3) := by decide +kernel
theorem dJ9_max_7cf53_5 : decode cJ9_max_7cf53 5 = .ok (.iload_n 0, 1) := by decide +kernel
theorem dJ9_max_7cf53_6 : decode cJ9_max_7cf53 6 = .ok (.goto 4, 3) := by decide +kernel
theorem dJ9_max_7cf53_9 : decode cJ9_max_7cf53 9 = .ok (.iload_n 1, 1) := by decide +kernel
theorem dJ9_max_7cf53_10 : decode cJ9_max_7cf53 10 = .ok (.ireturn, 1) := by decide +kernel
theorem dJ9_min_7cf53_0 : decode cJ9_min_7cf53 0 = .ok (.iload_n 0, 1) := by decide +kernel
theorem dJ9_min_7cf53_1 : decode cJ9_min_7cf53 1 = .ok (.iload_n 1, 1) := by decide +kernel
theorem dJ9_min_7cf53_2 : decode cJ9_min_7cf53 2 = .ok (.if_icmp .gt 7, 3) := by decide +kernel
theorem dJ9_min_7cf53_5 : decode cJ9_min_7cf53 5 = .ok (.iload_n 0, 1) := by decide +kernel
theorem dJ9_min_7cf53_6 : decode cJ9_min_7cf53 6 = .ok (.goto 4, 3) := by decide +kernel
theorem dJ9_min_7cf53_9 : decode cJ9_min_7cf53 9 = .ok (.iload_n 1, 1) := by decide +kernel
theorem dJ9_min_7cf53_10 : decode cJ9_min_7cf53 10 = .ok (.ireturn, 1) := by decide +kernel
theorem dJ7_fill_53178_0 : decode cJ7_fill_53178 0 = .ok (.iconst 0, 1) := by decide +kernel
theorem dJ7_fill_53178_1 : decode cJ7_fill_53178 1 = .ok (.istore_n 2, 1) := by decide +kernel
theorem dJ7_fill_53178_2 : decode cJ7_fill_53178 2 = .ok (.aload_n 0, 1) := by decide +kernel
theorem dJ7_fill_53178_3 : decode cJ7_fill_53178 3 = .ok (.arraylength, 1) := by decide +kernel
theorem dJ7_fill_53178_4 : decode cJ7_fill_53178 4 = .ok (.istore_n 3, 1) := by decide +kernel
theorem dJ7_fill_53178_5 : decode cJ7_fill_53178 5 = .ok (.iload_n 2, 1) := by decide +kernel
theorem dJ7_fill_53178_6 : decode cJ7_fill_53178 6 = .ok (.iload_n 3, 1) := by decide +kernel
theorem dJ7_fill_53178_7 : decode cJ7_fill_53178 7 = .ok (.if_icmp .ge 13, 3) := by decide +kernel
theorem dJ7_fill_53178_10 : decode cJ7_fill_53178 10 = .ok (.aload_n 0, 1) := by decide +kernel
theorem dJ7_fill_53178_11 : decode cJ7_fill_53178 11 = .ok (.iload_n 2, 1) := by decide +kernel
theorem dJ7_fill_53178_12 : decode cJ7_fill_53178 12 = .ok (.iload_n 1, 1) := by decide +kernel
theorem dJ7_fill_53178_13 : decode cJ7_fill_53178 13 = .ok (.iastore, 1) := by decide +kernel
theorem dJ7_fill_53178_14 : decode cJ7_fill_53178 14 = .ok (.iinc 2 1, 3) := by decide +kernel
theorem dJ7_fill_53178_17 : decode cJ7_fill_53178 17 = .ok (.goto (-12), 3) := by decide +kernel
theorem dJ7_fill_53178_20 : decode cJ7_fill_53178 20 = .ok (.return_, 1) := by decide +kernel
theorem dL_law_0 : decode cL_law 0 = .ok (.new 7, 3) := by decide +kernel
theorem dL_law_3 : decode cL_law 3 = .ok (.dup, 1) := by decide +kernel
theorem dL_law_4 : decode cL_law 4 = .ok (.invokespecial 9, 3) := by decide +kernel
theorem dL_law_7 : decode cL_law 7 = .ok (.astore_n 1, 1) := by decide +kernel
theorem dL_law_8 : decode cL_law 8 = .ok (.new 10, 3) := by decide +kernel
theorem dL_law_11 : decode cL_law 11 = .ok (.dup, 1) := by decide +kernel
theorem dL_law_12 : decode cL_law 12 = .ok (.invokespecial 12, 3) := by decide +kernel
theorem dL_law_15 : decode cL_law 15 = .ok (.astore_n 2, 1) := by decide +kernel
theorem dL_law_16 : decode cL_law 16 = .ok (.iconst 0, 1) := by decide +kernel
theorem dL_law_17 : decode cL_law 17 = .ok (.istore_n 3, 1) := by decide +kernel
theorem dL_law_18 : decode cL_law 18 = .ok (.iload_n 3, 1) := by decide +kernel
theorem dL_law_19 : decode cL_law 19 = .ok (.aload_n 0, 1) := by decide +kernel
theorem dL_law_20 : decode cL_law 20 = .ok (.arraylength, 1) := by decide +kernel
theorem dL_law_21 : decode cL_law 21 = .ok (.bipush 6, 2) := by decide +kernel
theorem dL_law_23 : decode cL_law 23 = .ok (.isub, 1) := by decide +kernel
theorem dL_law_24 : decode cL_law 24 = .ok (.if_icmp .gt 427, 3) := by decide +kernel
theorem dL_law_27 : decode cL_law 27 = .ok (.aload_n 0, 1) := by decide +kernel
theorem dL_law_28 : decode cL_law 28 = .ok (.iload_n 3, 1) := by decide +kernel
