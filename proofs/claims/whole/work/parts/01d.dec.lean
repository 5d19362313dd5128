theorem dX6_init_0 : decode cX6_init 0 = .ok (.aload_n 0, 1) := by decide +kernel
theorem dX6_init_1 : decode cX6_init 1 = .ok (.invokespecial 1, 3) := by decide +kernel
theorem dX6_init_4 : decode cX6_init 4 = .ok (.aload_n 0, 1) := by decide +kernel
theorem dX6_init_5 : decode cX6_init 5 = .ok (.bipush 18, 2) := by decide +kernel
theorem dX6_init_7 : decode cX6_init 7 = .ok (.newarray .int, 2) := by decide +kernel
theorem dX6_init_9 : decode cX6_init 9 = .ok (.putfield 7, 3) := by decide +kernel
theorem dX6_init_12 : decode cX6_init 12 = .ok (.aload_n 0, 1) := by decide +kernel
theorem dX6_init_13 : decode cX6_init 13 = .ok (.bipush 18, 2) := by decide +kernel
theorem dX6_init_15 : decode cX6_init 15 = .ok (.newarray .int, 2) := by decide +kernel
theorem dX6_init_17 : decode cX6_init 17 = .ok (.putfield 13, 3) := by decide +kernel
theorem dX6_init_20 : decode cX6_init 20 = .ok (.aload_n 0, 1) := by decide +kernel
theorem dX6_init_21 : decode cX6_init 21 = .ok (.bipush 18, 2) := by decide +kernel
theorem dX6_init_23 : decode cX6_init 23 = .ok (.newarray .int, 2) := by decide +kernel
theorem dX6_init_25 : decode cX6_init 25 = .ok (.putfield 16, 3) := by decide +kernel
theorem dX6_init_28 : decode cX6_init 28 = .ok (.aload_n 0, 1) := by decide +kernel
theorem dX6_init_29 : decode cX6_init 29 = .ok (.bipush 18, 2) := by decide +kernel
theorem dX6_init_31 : decode cX6_init 31 = .ok (.newarray .int, 2) := by decide +kernel
theorem dX6_init_33 : decode cX6_init 33 = .ok (.putfield 19, 3) := by decide +kernel
theorem dX6_init_36 : decode cX6_init 36 = .ok (.aload_n 0, 1) := by decide +kernel
theorem dX6_init_37 : decode cX6_init 37 = .ok (.bipush 18, 2) := by decide +kernel
theorem dX6_init_39 : decode cX6_init 39 = .ok (.newarray .int, 2) := by decide +kernel
theorem dX6_init_41 : decode cX6_init 41 = .ok (.putfield 22, 3) := by decide +kernel
theorem dX6_init_44 : decode cX6_init 44 = .ok (.aload_n 0, 1) := by decide +kernel
theorem dX6_init_45 : decode cX6_init 45 = .ok (.bipush 27, 2) := by decide +kernel
theorem dX6_init_47 : decode cX6_init 47 = .ok (.newarray .int, 2) := by decide +kernel
theorem dX6_init_49 : decode cX6_init 49 = .ok (.putfield 25, 3) := by decide +kernel
theorem dX6_init_52 : decode cX6_init 52 = .ok (.aload_n 0, 1) := by decide +kernel
theorem dX6_init_53 : decode cX6_init 53 = .ok (.bipush 6, 2) := by decide +kernel
theorem dX6_init_55 : decode cX6_init 55 = .ok (.newarray .int, 2) := by decide +kernel
theorem dX6_init_57 : decode cX6_init 57 = .ok (.dup, 1) := by decide +kernel
theorem dX6_init_58 : decode cX6_init 58 = .ok (.iconst 0, 1) := by decide +kernel
theorem dX6_init_59 : decode cX6_init 59 = .ok (.iconst 1, 1) := by decide +kernel
theorem dX6_init_60 : decode cX6_init 60 = .ok (.iastore, 1) := by decide +kernel
theorem dX6_init_61 : decode cX6_init 61 = .ok (.dup, 1) := by decide +kernel
theorem dX6_init_62 : decode cX6_init 62 = .ok (.iconst 1, 1) := by decide +kernel
theorem dX6_init_63 : decode cX6_init 63 = .ok (.iconst 0, 1) := by decide +kernel
theorem dX6_init_64 : decode cX6_init 64 = .ok (.iastore, 1) := by decide +kernel
theorem dX6_init_65 : decode cX6_init 65 = .ok (.dup, 1) := by decide +kernel
theorem dX6_init_66 : decode cX6_init 66 = .ok (.iconst 2, 1) := by decide +kernel
theorem dX6_init_67 : decode cX6_init 67 = .ok (.bipush 20, 2) := by decide +kernel
theorem dX6_init_69 : decode cX6_init 69 = .ok (.iastore, 1) := by decide +kernel
theorem dX6_init_70 : decode cX6_init 70 = .ok (.dup, 1) := by decide +kernel
theorem dX6_init_71 : decode cX6_init 71 = .ok (.iconst 3, 1) := by decide +kernel
theorem dX6_init_72 : decode cX6_init 72 = .ok (.bipush 10, 2) := by decide +kernel
theorem dX6_init_74 : decode cX6_init 74 = .ok (.iastore, 1) := by decide +kernel
theorem dX6_init_75 : decode cX6_init 75 = .ok (.dup, 1) := by decide +kernel
theorem dX6_init_76 : decode cX6_init 76 = .ok (.iconst 4, 1) := by decide +kernel
theorem dX6_init_77 : decode cX6_init 77 = .ok (.bipush 30, 2) := by decide +kernel
theorem dX6_init_79 : decode cX6_init 79 = .ok (.iastore, 1) := by decide +kernel
theorem dX6_init_80 : decode cX6_init 80 = .ok (.dup, 1) := by decide +kernel
theorem dX6_init_81 : decode cX6_init 81 = .ok (.iconst 5, 1) := by decide +kernel
theorem dX6_init_82 : decode cX6_init 82 = .ok (.iconst 0, 1) := by decide +kernel
theorem dX6_init_83 : decode cX6_init 83 = .ok (.iastore, 1) := by decide +kernel
theorem dX6_init_84 : decode cX6_init 84 = .ok (.putfield 28, 3) := by decide +kernel
theorem dX6_init_87 : decode cX6_init 87 = .ok (.aload_n 0, 1) := by decide +kernel
theorem dX6_init_88 : decode cX6_init 88 = .ok (.iconst 1, 1) := by decide +kernel
theorem dX6_init_89 : decode cX6_init 89 = .ok (.putfield 31, 3) := by decide +kernel
theorem dX6_init_92 : decode cX6_init 92 = .ok (.aload_n 0, 1) := by decide +kernel
theorem dX6_init_93 : decode cX6_init 93 = .ok (.bipush 81, 2) := by decide +kernel
theorem dX6_init_95 : decode cX6_init 95 = .ok (.newarray .boolean, 2) := by decide +kernel
theorem dX6_init_97 : decode cX6_init 97 = .ok (.putfield 35, 3) := by decide +kernel
theorem dX6_init_100 : decode cX6_init 100 = .ok (.aload_n 0, 1) := by decide +kernel
theorem dX6_init_101 : decode cX6_init 101 = .ok (.bipush 81, 2) := by decide +kernel
theorem dX6_init_103 : decode cX6_init 103 = .ok (.newarray .boolean, 2) := by decide +kernel
theorem dX6_init_105 : decode cX6_init 105 = .ok (.putfield 39, 3) := by decide +kernel
theorem dX6_init_108 : decode cX6_init 108 = .ok (.aload_n 0, 1) := by decide +kernel
theorem dX6_init_109 : decode cX6_init 109 = .ok (.sipush 9216, 3) := by decide +kernel
theorem dX6_init_112 : decode cX6_init 112 = .ok (.newarray .int, 2) := by decide +kernel
theorem dX6_init_114 : decode cX6_init 114 = .ok (.putfield 42, 3) := by decide +kernel
theorem dX6_init_117 : decode cX6_init 117 = .ok (.aload_n 0, 1) := by decide +kernel
theorem dX6_init_118 : decode cX6_init 118 = .ok (.sipush 9216, 3) := by decide +kernel
theorem dX6_init_121 : decode cX6_init 121 = .ok (.newarray .int, 2) := by decide +kernel
theorem dX6_init_123 : decode cX6_init 123 = .ok (.putfield 45, 3) := by decide +kernel
theorem dX6_init_126 : decode cX6_init 126 = .ok (.aload_n 0, 1) := by decide +kernel
theorem dX6_init_127 : decode cX6_init 127 = .ok (.iconst (-1), 1) := by decide +kernel
theorem dX6_init_128 : decode cX6_init 128 = .ok (.putfield 48, 3) := by decide +kernel
theorem dX6_init_131 : decode cX6_init 131 = .ok (.aload_n 0, 1) := by decide +kernel
theorem dX6_init_132 : decode cX6_init 132 = .ok (.iconst (-1), 1) := by decide +kernel
theorem dX6_init_133 : decode cX6_init 133 = .ok (.putfield 52, 3) := by decide +kernel
theorem dX6_init_136 : decode cX6_init 136 = .ok (.aload_n 0, 1) := by decide +kernel
theorem dX6_init_137 : decode cX6_init 137 = .ok (.bipush 9, 2) := by decide +kernel
theorem dX6_init_139 : decode cX6_init 139 = .ok (.newarray .int, 2) := by decide +kernel
theorem dX6_init_141 : decode cX6_init 141 = .ok (.putfield 55, 3) := by decide +kernel
theorem dX6_init_144 : decode cX6_init 144 = .ok (.aload_n 0, 1) := by decide +kernel
theorem dX6_init_145 : decode cX6_init 145 = .ok (.bipush 9, 2) := by decide +kernel
theorem dX6_init_147 : decode cX6_init 147 = .ok (.newarray .int, 2) := by decide +kernel
theorem dX6_init_149 : decode cX6_init 149 = .ok (.putfield 58, 3) := by decide +kernel
theorem dX6_init_152 : decode cX6_init 152 = .ok (.return_, 1) := by decide +kernel
theorem dX6_in_0 : decode cX6_in 0 = .ok (.iload_n 0, 1) := by decide +kernel
theorem dX6_in_1 : decode cX6_in 1 = .ok (.iload_n 1, 1) := by decide +kernel
theorem dX6_in_2 : decode cX6_in 2 = .ok (.if_icmp .lt 12, 3) := by decide +kernel
theorem dX6_in_5 : decode cX6_in 5 = .ok (.iload_n 0, 1) := by decide +kernel
theorem dX6_in_6 : decode cX6_in 6 = .ok (.iload_n 2, 1) := by decide +kernel
theorem dX6_in_7 : decode cX6_in 7 = .ok (.if_icmp .gt 7, 3) := by decide +kernel
theorem dX6_in_10 : decode cX6_in 10 = .ok (.iconst 1, 1) := by decide +kernel
theorem dX6_in_11 : decode cX6_in 11 = .ok (.goto 4, 3) := by decide +kernel
theorem dX6_in_14 : decode cX6_in 14 = .ok (.iconst 0, 1) := by decide +kernel
theorem dX6_in_15 : decode cX6_in 15 = .ok (.ireturn, 1) := by decide +kernel
set_option maxRecDepth 20000 in
theorem ggX6_isLeaf_X6_in : GoodIn wsX6_isLeaf wsX6_in := goodIn_r _ [5] (by decide +kernel) (by decide +kernel)
set_option maxRecDepth 20000 in
theorem gX6_isLeaf_X6_in : GoodIn wsX6_isLeaf (va_wsS RX6 64 yX6_in wsX6_in) := goodIn_app (goodIn_of _ (by decide +kernel)) ggX6_isLeaf_X6_in
theorem dX6_isLeaf_0 : decode cX6_isLeaf 0 = .ok (.iload_n 1, 1) := by decide +kernel
theorem dX6_isLeaf_1 : decode cX6_isLeaf 1 = .ok (.iconst 0, 1) := by decide +kernel
theorem dX6_isLeaf_2 : decode cX6_isLeaf 2 = .ok (.aload_n 0, 1) := by decide +kernel
theorem dX6_isLeaf_3 : decode cX6_isLeaf 3 = .ok (.getfield 61, 3) := by decide +kernel
theorem dX6_isLeaf_6 : decode cX6_isLeaf 6 = .ok (.iconst 1, 1) := by decide +kernel
theorem dX6_isLeaf_7 : decode cX6_isLeaf 7 = .ok (.isub, 1) := by decide +kernel
theorem dX6_isLeaf_8 : decode cX6_isLeaf 8 = .ok (.invokestatic 64, 3) := by decide +kernel
theorem dX6_isLeaf_11 : decode cX6_isLeaf 11 = .ok (.ireturn, 1) := by decide +kernel
set_option maxRecDepth 20000 in
theorem ggX6_leaf_X6_in : GoodIn wsX6_leaf wsX6_in := goodIn_r _ [8] (by decide +kernel) (by decide +kernel)
set_option maxRecDepth 20000 in
theorem gX6_leaf_X6_in : GoodIn wsX6_leaf (va_wsS RX6 64 yX6_in wsX6_in) := goodIn_app (goodIn_of _ (by decide +kernel)) ggX6_leaf_X6_in
theorem dX6_leaf_0 : decode cX6_leaf 0 = .ok (.iload_n 1, 1) := by decide +kernel
theorem dX6_leaf_1 : decode cX6_leaf 1 = .ok (.iconst 0, 1) := by decide +kernel
theorem dX6_leaf_2 : decode cX6_leaf 2 = .ok (.bipush 99, 2) := by decide +kernel
theorem dX6_leaf_4 : decode cX6_leaf 4 = .ok (.invokestatic 64, 3) := by decide +kernel
theorem dX6_leaf_7 : decode cX6_leaf 7 = .ok (.ifCond .eq 43, 3) := by decide +kernel
theorem dX6_leaf_10 : decode cX6_leaf 10 = .ok (.iload_n 2, 1) := by decide +kernel
theorem dX6_leaf_11 : decode cX6_leaf 11 = .ok (.iconst 0, 1) := by decide +kernel
theorem dX6_leaf_12 : decode cX6_leaf 12 = .ok (.bipush 99, 2) := by decide +kernel
theorem dX6_leaf_14 : decode cX6_leaf 14 = .ok (.invokestatic 64, 3) := by decide +kernel
theorem dX6_leaf_17 : decode cX6_leaf 17 = .ok (.ifCond .eq 33, 3) := by decide +kernel
theorem dX6_leaf_20 : decode cX6_leaf 20 = .ok (.iload_n 3, 1) := by decide +kernel
theorem dX6_leaf_21 : decode cX6_leaf 21 = .ok (.iconst 0, 1) := by decide +kernel
theorem dX6_leaf_22 : decode cX6_leaf 22 = .ok (.bipush 99, 2) := by decide +kernel
theorem dX6_leaf_24 : decode cX6_leaf 24 = .ok (.invokestatic 64, 3) := by decide +kernel
theorem dX6_leaf_27 : decode cX6_leaf 27 = .ok (.ifCond .eq 23, 3) := by decide +kernel
theorem dX6_leaf_30 : decode cX6_leaf 30 = .ok (.iload 4, 2) := by decide +kernel
theorem dX6_leaf_32 : decode cX6_leaf 32 = .ok (.iconst 0, 1) := by decide +kernel
theorem dX6_leaf_33 : decode cX6_leaf 33 = .ok (.bipush 99, 2) := by decide +kernel
theorem dX6_leaf_35 : decode cX6_leaf 35 = .ok (.invokestatic 64, 3) := by decide +kernel
theorem dX6_leaf_38 : decode cX6_leaf 38 = .ok (.ifCond .eq 12, 3) := by decide +kernel
theorem dX6_leaf_41 : decode cX6_leaf 41 = .ok (.aload_n 0, 1) := by decide +kernel
theorem dX6_leaf_42 : decode cX6_leaf 42 = .ok (.getfield 61, 3) := by decide +kernel
theorem dX6_leaf_45 : decode cX6_leaf 45 = .ok (.bipush 9, 2) := by decide +kernel
theorem dX6_leaf_47 : decode cX6_leaf 47 = .ok (.if_icmp .ne 5, 3) := by decide +kernel
theorem dX6_leaf_50 : decode cX6_leaf 50 = .ok (.iconst (-1), 1) := by decide +kernel
theorem dX6_leaf_51 : decode cX6_leaf 51 = .ok (.ireturn, 1) := by decide +kernel
theorem dX6_leaf_52 : decode cX6_leaf 52 = .ok (.aload_n 0, 1) := by decide +kernel
theorem dX6_leaf_53 : decode cX6_leaf 53 = .ok (.getfield 7, 3) := by decide +kernel
theorem dX6_leaf_56 : decode cX6_leaf 56 = .ok (.iconst 2, 1) := by decide +kernel
theorem dX6_leaf_57 : decode cX6_leaf 57 = .ok (.aload_n 0, 1) := by decide +kernel
theorem dX6_leaf_58 : decode cX6_leaf 58 = .ok (.getfield 61, 3) := by decide +kernel
theorem dX6_leaf_61 : decode cX6_leaf 61 = .ok (.imul, 1) := by decide +kernel
theorem dX6_leaf_62 : decode cX6_leaf 62 = .ok (.iload_n 1, 1) := by decide +kernel
theorem dX6_leaf_63 : decode cX6_leaf 63 = .ok (.iastore, 1) := by decide +kernel
theorem dX6_leaf_64 : decode cX6_leaf 64 = .ok (.aload_n 0, 1) := by decide +kernel
theorem dX6_leaf_65 : decode cX6_leaf 65 = .ok (.getfield 13, 3) := by decide +kernel
theorem dX6_leaf_68 : decode cX6_leaf 68 = .ok (.iconst 2, 1) := by decide +kernel
theorem dX6_leaf_69 : decode cX6_leaf 69 = .ok (.aload_n 0, 1) := by decide +kernel
theorem dX6_leaf_70 : decode cX6_leaf 70 = .ok (.getfield 61, 3) := by decide +kernel
theorem dX6_leaf_73 : decode cX6_leaf 73 = .ok (.imul, 1) := by decide +kernel
theorem dX6_leaf_74 : decode cX6_leaf 74 = .ok (.iload_n 2, 1) := by decide +kernel
theorem dX6_leaf_75 : decode cX6_leaf 75 = .ok (.iastore, 1) := by decide +kernel
theorem dX6_leaf_76 : decode cX6_leaf 76 = .ok (.aload_n 0, 1) := by decide +kernel
theorem dX6_leaf_77 : decode cX6_leaf 77 = .ok (.getfield 7, 3) := by decide +kernel
theorem dX6_leaf_80 : decode cX6_leaf 80 = .ok (.iconst 2, 1) := by decide +kernel
theorem dX6_leaf_81 : decode cX6_leaf 81 = .ok (.aload_n 0, 1) := by decide +kernel
theorem dX6_leaf_82 : decode cX6_leaf 82 = .ok (.getfield 61, 3) := by decide +kernel
theorem dX6_leaf_85 : decode cX6_leaf 85 = .ok (.imul, 1) := by decide +kernel
theorem dX6_leaf_86 : decode cX6_leaf 86 = .ok (.iconst 1, 1) := by decide +kernel
theorem dX6_leaf_87 : decode cX6_leaf 87 = .ok (.iadd, 1) := by decide +kernel
theorem dX6_leaf_88 : decode cX6_leaf 88 = .ok (.iload_n 3, 1) := by decide +kernel
theorem dX6_leaf_89 : decode cX6_leaf 89 = .ok (.iastore, 1) := by decide +kernel
theorem dX6_leaf_90 : decode cX6_leaf 90 = .ok (.aload_n 0, 1) := by decide +kernel
theorem dX6_leaf_91 : decode cX6_leaf 91 = .ok (.getfield 13, 3) := by decide +kernel
theorem dX6_leaf_94 : decode cX6_leaf 94 = .ok (.iconst 2, 1) := by decide +kernel
theorem dX6_leaf_95 : decode cX6_leaf 95 = .ok (.aload_n 0, 1) := by decide +kernel
theorem dX6_leaf_96 : decode cX6_leaf 96 = .ok (.getfield 61, 3) := by decide +kernel
theorem dX6_leaf_99 : decode cX6_leaf 99 = .ok (.imul, 1) := by decide +kernel
theorem dX6_leaf_100 : decode cX6_leaf 100 = .ok (.iconst 1, 1) := by decide +kernel
theorem dX6_leaf_101 : decode cX6_leaf 101 = .ok (.iadd, 1) := by decide +kernel
theorem dX6_leaf_102 : decode cX6_leaf 102 = .ok (.iload 4, 2) := by decide +kernel
theorem dX6_leaf_104 : decode cX6_leaf 104 = .ok (.iastore, 1) := by decide +kernel
theorem dX6_leaf_105 : decode cX6_leaf 105 = .ok (.aload_n 0, 1) := by decide +kernel
theorem dX6_leaf_106 : decode cX6_leaf 106 = .ok (.getfield 16, 3) := by decide +kernel
theorem dX6_leaf_109 : decode cX6_leaf 109 = .ok (.iconst 2, 1) := by decide +kernel
theorem dX6_leaf_110 : decode cX6_leaf 110 = .ok (.aload_n 0, 1) := by decide +kernel
theorem dX6_leaf_111 : decode cX6_leaf 111 = .ok (.getfield 61, 3) := by decide +kernel
theorem dX6_leaf_114 : decode cX6_leaf 114 = .ok (.imul, 1) := by decide +kernel
theorem dX6_leaf_115 : decode cX6_leaf 115 = .ok (.iconst (-1), 1) := by decide +kernel
theorem dX6_leaf_116 : decode cX6_leaf 116 = .ok (.iastore, 1) := by decide +kernel
theorem dX6_leaf_117 : decode cX6_leaf 117 = .ok (.aload_n 0, 1) := by decide +kernel
theorem dX6_leaf_118 : decode cX6_leaf 118 = .ok (.getfield 16, 3) := by decide +kernel
theorem dX6_leaf_121 : decode cX6_leaf 121 = .ok (.iconst 2, 1) := by decide +kernel
theorem dX6_leaf_122 : decode cX6_leaf 122 = .ok (.aload_n 0, 1) := by decide +kernel
theorem dX6_leaf_123 : decode cX6_leaf 123 = .ok (.getfield 61, 3) := by decide +kernel
theorem dX6_leaf_126 : decode cX6_leaf 126 = .ok (.imul, 1) := by decide +kernel
theorem dX6_leaf_127 : decode cX6_leaf 127 = .ok (.iconst 1, 1) := by decide +kernel
theorem dX6_leaf_128 : decode cX6_leaf 128 = .ok (.iadd, 1) := by decide +kernel
theorem dX6_leaf_129 : decode cX6_leaf 129 = .ok (.iconst (-1), 1) := by decide +kernel
theorem dX6_leaf_130 : decode cX6_leaf 130 = .ok (.iastore, 1) := by decide +kernel
theorem dX6_leaf_131 : decode cX6_leaf 131 = .ok (.aload_n 0, 1) := by decide +kernel
theorem dX6_leaf_132 : decode cX6_leaf 132 = .ok (.dup, 1) := by decide +kernel
theorem dX6_leaf_133 : decode cX6_leaf 133 = .ok (.getfield 61, 3) := by decide +kernel
theorem dX6_leaf_136 : decode cX6_leaf 136 = .ok (.iconst 1, 1) := by decide +kernel
theorem dX6_leaf_137 : decode cX6_leaf 137 = .ok (.iadd, 1) := by decide +kernel
theorem dX6_leaf_138 : decode cX6_leaf 138 = .ok (.putfield 61, 3) := by decide +kernel
theorem dX6_leaf_141 : decode cX6_leaf 141 = .ok (.aload_n 0, 1) := by decide +kernel
theorem dX6_leaf_142 : decode cX6_leaf 142 = .ok (.getfield 61, 3) := by decide +kernel
theorem dX6_leaf_145 : decode cX6_leaf 145 = .ok (.iconst 1, 1) := by decide +kernel
theorem dX6_leaf_146 : decode cX6_leaf 146 = .ok (.isub, 1) := by decide +kernel
theorem dX6_leaf_147 : decode cX6_leaf 147 = .ok (.ireturn, 1) := by decide +kernel
set_option maxRecDepth 20000 in
theorem ggX6_catchword_X6_isLeaf : GoodIn wsX6_catchword wsX6_isLeaf := goodIn_r _ [6, 7, 8, 9, 5, 10, 11, 12, 13, 14, 15, 16, 17, 18, 19, 20, 21, 22, 23, 24, 25, 26, 27, 28, 29, 30] (by decide +kernel) (by decide +kernel)
set_option maxRecDepth 20000 in
theorem gX6_catchword_X6_isLeaf : GoodIn wsX6_catchword (wsV RX6 68 RX6 yX6_isLeaf wsX6_isLeaf) := goodIn_app (goodIn_of _ (by decide +kernel)) ggX6_catchword_X6_isLeaf
set_option maxRecDepth 20000 in
theorem ggX6_catchword_X6_in : GoodIn wsX6_catchword wsX6_in := goodIn_r _ [10] (by decide +kernel) (by decide +kernel)
set_option maxRecDepth 20000 in
theorem gX6_catchword_X6_in : GoodIn wsX6_catchword (va_wsS RX6 64 yX6_in wsX6_in) := goodIn_app (goodIn_of _ (by decide +kernel)) ggX6_catchword_X6_in
theorem dX6_catchword_0 : decode cX6_catchword 0 = .ok (.aload_n 0, 1) := by decide +kernel
theorem dX6_catchword_1 : decode cX6_catchword 1 = .ok (.iload_n 1, 1) := by decide +kernel
theorem dX6_catchword_2 : decode cX6_catchword 2 = .ok (.invokevirtual 68, 3) := by decide +kernel
theorem dX6_catchword_5 : decode cX6_catchword 5 = .ok (.ifCond .eq 22, 3) := by decide +kernel
theorem dX6_catchword_8 : decode cX6_catchword 8 = .ok (.iload_n 2, 1) := by decide +kernel
theorem dX6_catchword_9 : decode cX6_catchword 9 = .ok (.iconst 0, 1) := by decide +kernel
theorem dX6_catchword_10 : decode cX6_catchword 10 = .ok (.iconst 1, 1) := by decide +kernel
theorem dX6_catchword_11 : decode cX6_catchword 11 = .ok (.invokestatic 64, 3) := by decide +kernel
theorem dX6_catchword_14 : decode cX6_catchword 14 = .ok (.ifCond .eq 13, 3) := by decide +kernel
theorem dX6_catchword_17 : decode cX6_catchword 17 = .ok (.iload_n 3, 1) := by decide +kernel
theorem dX6_catchword_18 : decode cX6_catchword 18 = .ok (.iconst (-1), 1) := by decide +kernel
theorem dX6_catchword_19 : decode cX6_catchword 19 = .ok (.bipush 99, 2) := by decide +kernel
theorem dX6_catchword_21 : decode cX6_catchword 21 = .ok (.invokestatic 64, 3) := by decide +kernel
theorem dX6_catchword_24 : decode cX6_catchword 24 = .ok (.ifCond .ne 5, 3) := by decide +kernel
theorem dX6_catchword_27 : decode cX6_catchword 27 = .ok (.iconst 0, 1) := by decide +kernel
theorem dX6_catchword_28 : decode cX6_catchword 28 = .ok (.ireturn, 1) := by decide +kernel
theorem dX6_catchword_29 : decode cX6_catchword 29 = .ok (.aload_n 0, 1) := by decide +kernel
theorem dX6_catchword_30 : decode cX6_catchword 30 = .ok (.getfield 16, 3) := by decide +kernel
theorem dX6_catchword_33 : decode cX6_catchword 33 = .ok (.iconst 2, 1) := by decide +kernel
theorem dX6_catchword_34 : decode cX6_catchword 34 = .ok (.iload_n 1, 1) := by decide +kernel
theorem dX6_catchword_35 : decode cX6_catchword 35 = .ok (.imul, 1) := by decide +kernel
theorem dX6_catchword_36 : decode cX6_catchword 36 = .ok (.iload_n 2, 1) := by decide +kernel
theorem dX6_catchword_37 : decode cX6_catchword 37 = .ok (.iadd, 1) := by decide +kernel
theorem dX6_catchword_38 : decode cX6_catchword 38 = .ok (.iload_n 3, 1) := by decide +kernel
theorem dX6_catchword_39 : decode cX6_catchword 39 = .ok (.iastore, 1) := by decide +kernel
theorem dX6_catchword_40 : decode cX6_catchword 40 = .ok (.iconst 1, 1) := by decide +kernel
theorem dX6_catchword_41 : decode cX6_catchword 41 = .ok (.ireturn, 1) := by decide +kernel
set_option maxRecDepth 20000 in
theorem ggX6_cut_X6_isLeaf : GoodIn wsX6_cut wsX6_isLeaf := goodIn_r _ [7, 8, 9, 10, 6, 11, 12, 13, 14, 15, 16, 17, 18, 19, 20, 21, 22, 23, 24, 25, 26, 27, 28, 29, 30, 31] (by decide +kernel) (by decide +kernel)
set_option maxRecDepth 20000 in
theorem gX6_cut_X6_isLeaf : GoodIn wsX6_cut (wsV RX6 68 RX6 yX6_isLeaf wsX6_isLeaf) := goodIn_app (goodIn_of _ (by decide +kernel)) ggX6_cut_X6_isLeaf
set_option maxRecDepth 20000 in
theorem ggX6_cut_X6_in : GoodIn wsX6_cut wsX6_in := goodIn_r _ [11] (by decide +kernel) (by decide +kernel)
set_option maxRecDepth 20000 in
theorem gX6_cut_X6_in : GoodIn wsX6_cut (va_wsS RX6 64 yX6_in wsX6_in) := goodIn_app (goodIn_of _ (by decide +kernel)) ggX6_cut_X6_in
theorem dX6_cut_0 : decode cX6_cut 0 = .ok (.aload_n 0, 1) := by decide +kernel
theorem dX6_cut_1 : decode cX6_cut 1 = .ok (.iload_n 1, 1) := by decide +kernel
theorem dX6_cut_2 : decode cX6_cut 2 = .ok (.invokevirtual 68, 3) := by decide +kernel
theorem dX6_cut_5 : decode cX6_cut 5 = .ok (.ifCond .eq 33, 3) := by decide +kernel
theorem dX6_cut_8 : decode cX6_cut 8 = .ok (.iload_n 2, 1) := by decide +kernel
theorem dX6_cut_9 : decode cX6_cut 9 = .ok (.iconst 0, 1) := by decide +kernel
theorem dX6_cut_10 : decode cX6_cut 10 = .ok (.iconst 1, 1) := by decide +kernel
theorem dX6_cut_11 : decode cX6_cut 11 = .ok (.invokestatic 64, 3) := by decide +kernel
theorem dX6_cut_14 : decode cX6_cut 14 = .ok (.ifCond .eq 24, 3) := by decide +kernel
theorem dX6_cut_17 : decode cX6_cut 17 = .ok (.iload_n 3, 1) := by decide +kernel
theorem dX6_cut_18 : decode cX6_cut 18 = .ok (.iconst 0, 1) := by decide +kernel
theorem dX6_cut_19 : decode cX6_cut 19 = .ok (.bipush 99, 2) := by decide +kernel
theorem dX6_cut_21 : decode cX6_cut 21 = .ok (.invokestatic 64, 3) := by decide +kernel
theorem dX6_cut_24 : decode cX6_cut 24 = .ok (.ifCond .eq 14, 3) := by decide +kernel
theorem dX6_cut_27 : decode cX6_cut 27 = .ok (.iload 4, 2) := by decide +kernel
theorem dX6_cut_29 : decode cX6_cut 29 = .ok (.iconst 0, 1) := by decide +kernel
theorem dX6_cut_30 : decode cX6_cut 30 = .ok (.bipush 99, 2) := by decide +kernel
theorem dX6_cut_32 : decode cX6_cut 32 = .ok (.invokestatic 64, 3) := by decide +kernel
theorem dX6_cut_35 : decode cX6_cut 35 = .ok (.ifCond .ne 5, 3) := by decide +kernel
theorem dX6_cut_38 : decode cX6_cut 38 = .ok (.iconst 0, 1) := by decide +kernel
theorem dX6_cut_39 : decode cX6_cut 39 = .ok (.ireturn, 1) := by decide +kernel
theorem dX6_cut_40 : decode cX6_cut 40 = .ok (.aload_n 0, 1) := by decide +kernel
theorem dX6_cut_41 : decode cX6_cut 41 = .ok (.getfield 19, 3) := by decide +kernel
theorem dX6_cut_44 : decode cX6_cut 44 = .ok (.iconst 2, 1) := by decide +kernel
theorem dX6_cut_45 : decode cX6_cut 45 = .ok (.iload_n 1, 1) := by decide +kernel
theorem dX6_cut_46 : decode cX6_cut 46 = .ok (.imul, 1) := by decide +kernel
theorem dX6_cut_47 : decode cX6_cut 47 = .ok (.iload_n 2, 1) := by decide +kernel
theorem dX6_cut_48 : decode cX6_cut 48 = .ok (.iadd, 1) := by decide +kernel
theorem dX6_cut_49 : decode cX6_cut 49 = .ok (.iload_n 3, 1) := by decide +kernel
theorem dX6_cut_50 : decode cX6_cut 50 = .ok (.iastore, 1) := by decide +kernel
theorem dX6_cut_51 : decode cX6_cut 51 = .ok (.aload_n 0, 1) := by decide +kernel
theorem dX6_cut_52 : decode cX6_cut 52 = .ok (.getfield 22, 3) := by decide +kernel
theorem dX6_cut_55 : decode cX6_cut 55 = .ok (.iconst 2, 1) := by decide +kernel
theorem dX6_cut_56 : decode cX6_cut 56 = .ok (.iload_n 1, 1) := by decide +kernel
theorem dX6_cut_57 : decode cX6_cut 57 = .ok (.imul, 1) := by decide +kernel
theorem dX6_cut_58 : decode cX6_cut 58 = .ok (.iload_n 2, 1) := by decide +kernel
theorem dX6_cut_59 : decode cX6_cut 59 = .ok (.iadd, 1) := by decide +kernel
theorem dX6_cut_60 : decode cX6_cut 60 = .ok (.iload 4, 2) := by decide +kernel
theorem dX6_cut_62 : decode cX6_cut 62 = .ok (.iastore, 1) := by decide +kernel
theorem dX6_cut_63 : decode cX6_cut 63 = .ok (.iconst 1, 1) := by decide +kernel
theorem dX6_cut_64 : decode cX6_cut 64 = .ok (.ireturn, 1) := by decide +kernel
set_option maxRecDepth 20000 in
theorem ggX6_stain_X6_isLeaf : GoodIn wsX6_stain wsX6_isLeaf := goodIn_r _ [6, 7, 8, 9, 5, 10, 11, 12, 13, 14, 15, 16, 17, 18, 19, 20, 21, 22, 23, 24, 25, 26, 27, 28, 29, 30] (by decide +kernel) (by decide +kernel)
set_option maxRecDepth 20000 in
theorem gX6_stain_X6_isLeaf : GoodIn wsX6_stain (wsV RX6 68 RX6 yX6_isLeaf wsX6_isLeaf) := goodIn_app (goodIn_of _ (by decide +kernel)) ggX6_stain_X6_isLeaf
set_option maxRecDepth 20000 in
theorem ggX6_stain_X6_in : GoodIn wsX6_stain wsX6_in := goodIn_r _ [10] (by decide +kernel) (by decide +kernel)
set_option maxRecDepth 20000 in
theorem gX6_stain_X6_in : GoodIn wsX6_stain (va_wsS RX6 64 yX6_in wsX6_in) := goodIn_app (goodIn_of _ (by decide +kernel)) ggX6_stain_X6_in
theorem dX6_stain_0 : decode cX6_stain 0 = .ok (.aload_n 0, 1) := by decide +kernel
theorem dX6_stain_1 : decode cX6_stain 1 = .ok (.iload_n 1, 1) := by decide +kernel
theorem dX6_stain_2 : decode cX6_stain 2 = .ok (.invokevirtual 68, 3) := by decide +kernel
theorem dX6_stain_5 : decode cX6_stain 5 = .ok (.ifCond .eq 22, 3) := by decide +kernel
theorem dX6_stain_8 : decode cX6_stain 8 = .ok (.iload_n 2, 1) := by decide +kernel
theorem dX6_stain_9 : decode cX6_stain 9 = .ok (.iconst 0, 1) := by decide +kernel
theorem dX6_stain_10 : decode cX6_stain 10 = .ok (.iconst 2, 1) := by decide +kernel
theorem dX6_stain_11 : decode cX6_stain 11 = .ok (.invokestatic 64, 3) := by decide +kernel
theorem dX6_stain_14 : decode cX6_stain 14 = .ok (.ifCond .eq 13, 3) := by decide +kernel
theorem dX6_stain_17 : decode cX6_stain 17 = .ok (.iload_n 3, 1) := by decide +kernel
theorem dX6_stain_18 : decode cX6_stain 18 = .ok (.iconst 0, 1) := by decide +kernel
theorem dX6_stain_19 : decode cX6_stain 19 = .ok (.bipush 99, 2) := by decide +kernel
theorem dX6_stain_21 : decode cX6_stain 21 = .ok (.invokestatic 64, 3) := by decide +kernel
theorem dX6_stain_24 : decode cX6_stain 24 = .ok (.ifCond .ne 5, 3) := by decide +kernel
theorem dX6_stain_27 : decode cX6_stain 27 = .ok (.iconst 0, 1) := by decide +kernel
theorem dX6_stain_28 : decode cX6_stain 28 = .ok (.ireturn, 1) := by decide +kernel
theorem dX6_stain_29 : decode cX6_stain 29 = .ok (.aload_n 0, 1) := by decide +kernel
theorem dX6_stain_30 : decode cX6_stain 30 = .ok (.getfield 25, 3) := by decide +kernel
theorem dX6_stain_33 : decode cX6_stain 33 = .ok (.iconst 3, 1) := by decide +kernel
theorem dX6_stain_34 : decode cX6_stain 34 = .ok (.iload_n 1, 1) := by decide +kernel
theorem dX6_stain_35 : decode cX6_stain 35 = .ok (.imul, 1) := by decide +kernel
theorem dX6_stain_36 : decode cX6_stain 36 = .ok (.iload_n 2, 1) := by decide +kernel
theorem dX6_stain_37 : decode cX6_stain 37 = .ok (.iadd, 1) := by decide +kernel
theorem dX6_stain_38 : decode cX6_stain 38 = .ok (.iload_n 3, 1) := by decide +kernel
theorem dX6_stain_39 : decode cX6_stain 39 = .ok (.iastore, 1) := by decide +kernel
theorem dX6_stain_40 : decode cX6_stain 40 = .ok (.iconst 1, 1) := by decide +kernel
theorem dX6_stain_41 : decode cX6_stain 41 = .ok (.ireturn, 1) := by decide +kernel
set_option maxRecDepth 20000 in
theorem ggX6_weights_X6_in : GoodIn wsX6_weights wsX6_in := goodIn_r _ [5] (by decide +kernel) (by decide +kernel)
set_option maxRecDepth 20000 in
theorem gX6_weights_X6_in : GoodIn wsX6_weights (va_wsS RX6 64 yX6_in wsX6_in) := goodIn_app (goodIn_of _ (by decide +kernel)) ggX6_weights_X6_in
theorem dX6_weights_0 : decode cX6_weights 0 = .ok (.iload_n 1, 1) := by decide +kernel
theorem dX6_weights_1 : decode cX6_weights 1 = .ok (.iconst 0, 1) := by decide +kernel
theorem dX6_weights_2 : decode cX6_weights 2 = .ok (.bipush 9, 2) := by decide +kernel
theorem dX6_weights_4 : decode cX6_weights 4 = .ok (.invokestatic 64, 3) := by decide +kernel
theorem dX6_weights_7 : decode cX6_weights 7 = .ok (.ifCond .eq 57, 3) := by decide +kernel
theorem dX6_weights_10 : decode cX6_weights 10 = .ok (.iload_n 2, 1) := by decide +kernel
theorem dX6_weights_11 : decode cX6_weights 11 = .ok (.iconst 0, 1) := by decide +kernel
theorem dX6_weights_12 : decode cX6_weights 12 = .ok (.bipush 9, 2) := by decide +kernel
theorem dX6_weights_14 : decode cX6_weights 14 = .ok (.invokestatic 64, 3) := by decide +kernel
theorem dX6_weights_17 : decode cX6_weights 17 = .ok (.ifCond .eq 47, 3) := by decide +kernel
theorem dX6_weights_20 : decode cX6_weights 20 = .ok (.iload_n 3, 1) := by decide +kernel
theorem dX6_weights_21 : decode cX6_weights 21 = .ok (.iconst 0, 1) := by decide +kernel
theorem dX6_weights_22 : decode cX6_weights 22 = .ok (.bipush 99, 2) := by decide +kernel
theorem dX6_weights_24 : decode cX6_weights 24 = .ok (.invokestatic 64, 3) := by decide +kernel
theorem dX6_weights_27 : decode cX6_weights 27 = .ok (.ifCond .eq 37, 3) := by decide +kernel
theorem dX6_weights_30 : decode cX6_weights 30 = .ok (.iload 4, 2) := by decide +kernel
theorem dX6_weights_32 : decode cX6_weights 32 = .ok (.iconst 0, 1) := by decide +kernel
theorem dX6_weights_33 : decode cX6_weights 33 = .ok (.bipush 99, 2) := by decide +kernel
theorem dX6_weights_35 : decode cX6_weights 35 = .ok (.invokestatic 64, 3) := by decide +kernel
theorem dX6_weights_38 : decode cX6_weights 38 = .ok (.ifCond .eq 26, 3) := by decide +kernel
theorem dX6_weights_41 : decode cX6_weights 41 = .ok (.iload 5, 2) := by decide +kernel
theorem dX6_weights_43 : decode cX6_weights 43 = .ok (.iconst 0, 1) := by decide +kernel
theorem dX6_weights_44 : decode cX6_weights 44 = .ok (.bipush 99, 2) := by decide +kernel
theorem dX6_weights_46 : decode cX6_weights 46 = .ok (.invokestatic 64, 3) := by decide +kernel
theorem dX6_weights_49 : decode cX6_weights 49 = .ok (.ifCond .eq 15, 3) := by decide +kernel
theorem dX6_weights_52 : decode cX6_weights 52 = .ok (.iload 6, 2) := by decide +kernel
theorem dX6_weights_54 : decode cX6_weights 54 = .ok (.iconst 0, 1) := by decide +kernel
theorem dX6_weights_55 : decode cX6_weights 55 = .ok (.sipush 999, 3) := by decide +kernel
theorem dX6_weights_58 : decode cX6_weights 58 = .ok (.invokestatic 64, 3) := by decide +kernel
theorem dX6_weights_61 : decode cX6_weights 61 = .ok (.ifCond .ne 5, 3) := by decide +kernel
theorem dX6_weights_64 : decode cX6_weights 64 = .ok (.iconst 0, 1) := by decide +kernel
theorem dX6_weights_65 : decode cX6_weights 65 = .ok (.ireturn, 1) := by decide +kernel
theorem dX6_weights_66 : decode cX6_weights 66 = .ok (.aload_n 0, 1) := by decide +kernel
theorem dX6_weights_67 : decode cX6_weights 67 = .ok (.getfield 28, 3) := by decide +kernel
theorem dX6_weights_70 : decode cX6_weights 70 = .ok (.iconst 0, 1) := by decide +kernel
theorem dX6_weights_71 : decode cX6_weights 71 = .ok (.iload_n 1, 1) := by decide +kernel
theorem dX6_weights_72 : decode cX6_weights 72 = .ok (.iastore, 1) := by decide +kernel
theorem dX6_weights_73 : decode cX6_weights 73 = .ok (.aload_n 0, 1) := by decide +kernel
theorem dX6_weights_74 : decode cX6_weights 74 = .ok (.getfield 28, 3) := by decide +kernel
theorem dX6_weights_77 : decode cX6_weights 77 = .ok (.iconst 1, 1) := by decide +kernel
theorem dX6_weights_78 : decode cX6_weights 78 = .ok (.iload_n 2, 1) := by decide +kernel
theorem dX6_weights_79 : decode cX6_weights 79 = .ok (.iastore, 1) := by decide +kernel
theorem dX6_weights_80 : decode cX6_weights 80 = .ok (.aload_n 0, 1) := by decide +kernel
theorem dX6_weights_81 : decode cX6_weights 81 = .ok (.getfield 28, 3) := by decide +kernel
theorem dX6_weights_84 : decode cX6_weights 84 = .ok (.iconst 2, 1) := by decide +kernel
theorem dX6_weights_85 : decode cX6_weights 85 = .ok (.iload_n 3, 1) := by decide +kernel
theorem dX6_weights_86 : decode cX6_weights 86 = .ok (.iastore, 1) := by decide +kernel
theorem dX6_weights_87 : decode cX6_weights 87 = .ok (.aload_n 0, 1) := by decide +kernel
theorem dX6_weights_88 : decode cX6_weights 88 = .ok (.getfield 28, 3) := by decide +kernel
theorem dX6_weights_91 : decode cX6_weights 91 = .ok (.iconst 3, 1) := by decide +kernel
theorem dX6_weights_92 : decode cX6_weights 92 = .ok (.iload 4, 2) := by decide +kernel
theorem dX6_weights_94 : decode cX6_weights 94 = .ok (.iastore, 1) := by decide +kernel
theorem dX6_weights_95 : decode cX6_weights 95 = .ok (.aload_n 0, 1) := by decide +kernel
theorem dX6_weights_96 : decode cX6_weights 96 = .ok (.getfield 28, 3) := by decide +kernel
theorem dX6_weights_99 : decode cX6_weights 99 = .ok (.iconst 4, 1) := by decide +kernel
theorem dX6_weights_100 : decode cX6_weights 100 = .ok (.iload 5, 2) := by decide +kernel
theorem dX6_weights_102 : decode cX6_weights 102 = .ok (.iastore, 1) := by decide +kernel
theorem dX6_weights_103 : decode cX6_weights 103 = .ok (.aload_n 0, 1) := by decide +kernel
theorem dX6_weights_104 : decode cX6_weights 104 = .ok (.getfield 28, 3) := by decide +kernel
theorem dX6_weights_107 : decode cX6_weights 107 = .ok (.iconst 5, 1) := by decide +kernel
theorem dX6_weights_108 : decode cX6_weights 108 = .ok (.iload 6, 2) := by decide +kernel
theorem dX6_weights_110 : decode cX6_weights 110 = .ok (.iastore, 1) := by decide +kernel
theorem dX6_weights_111 : decode cX6_weights 111 = .ok (.iconst 1, 1) := by decide +kernel
theorem dX6_weights_112 : decode cX6_weights 112 = .ok (.ireturn, 1) := by decide +kernel
theorem dX6_turnable_0 : decode cX6_turnable 0 = .ok (.aload_n 0, 1) := by decide +kernel
theorem dX6_turnable_1 : decode cX6_turnable 1 = .ok (.iload_n 1, 1) := by decide +kernel
theorem dX6_turnable_2 : decode cX6_turnable 2 = .ok (.putfield 31, 3) := by decide +kernel
theorem dX6_turnable_5 : decode cX6_turnable 5 = .ok (.return_, 1) := by decide +kernel
set_option maxRecDepth 20000 in
theorem ggX6_must_X6_isLeaf : GoodIn wsX6_must wsX6_isLeaf := goodIn_r _ [7, 8, 9, 10, 6, 11, 12, 13, 14, 15, 16, 17, 18, 19, 20, 21, 22, 23, 24, 25, 26, 27, 28, 29, 30, 31] (by decide +kernel) (by decide +kernel)
set_option maxRecDepth 20000 in
theorem gX6_must_X6_isLeaf : GoodIn wsX6_must (wsV RX6 68 RX6 yX6_isLeaf wsX6_isLeaf) := goodIn_app (goodIn_of _ (by decide +kernel)) ggX6_must_X6_isLeaf
theorem dX6_must_0 : decode cX6_must 0 = .ok (.aload_n 0, 1) := by decide +kernel
theorem dX6_must_1 : decode cX6_must 1 = .ok (.iload_n 1, 1) := by decide +kernel
theorem dX6_must_2 : decode cX6_must 2 = .ok (.invokevirtual 68, 3) := by decide +kernel
theorem dX6_must_5 : decode cX6_must 5 = .ok (.ifCond .eq 16, 3) := by decide +kernel
theorem dX6_must_8 : decode cX6_must 8 = .ok (.aload_n 0, 1) := by decide +kernel
theorem dX6_must_9 : decode cX6_must 9 = .ok (.iload_n 2, 1) := by decide +kernel
theorem dX6_must_10 : decode cX6_must 10 = .ok (.invokevirtual 68, 3) := by decide +kernel
theorem dX6_must_13 : decode cX6_must 13 = .ok (.ifCond .eq 8, 3) := by decide +kernel
theorem dX6_must_16 : decode cX6_must 16 = .ok (.iload_n 1, 1) := by decide +kernel
theorem dX6_must_17 : decode cX6_must 17 = .ok (.iload_n 2, 1) := by decide +kernel
theorem dX6_must_18 : decode cX6_must 18 = .ok (.if_icmp .ne 5, 3) := by decide +kernel
theorem dX6_must_21 : decode cX6_must 21 = .ok (.iconst 0, 1) := by decide +kernel
theorem dX6_must_22 : decode cX6_must 22 = .ok (.ireturn, 1) := by decide +kernel
theorem dX6_must_23 : decode cX6_must 23 = .ok (.iload_n 3, 1) := by decide +kernel
theorem dX6_must_24 : decode cX6_must 24 = .ok (.ifCond .eq 19, 3) := by decide +kernel
theorem dX6_must_27 : decode cX6_must 27 = .ok (.aload_n 0, 1) := by decide +kernel
theorem dX6_must_28 : decode cX6_must 28 = .ok (.getfield 39, 3) := by decide +kernel
theorem dX6_must_31 : decode cX6_must 31 = .ok (.bipush 9, 2) := by decide +kernel
theorem dX6_must_33 : decode cX6_must 33 = .ok (.iload_n 1, 1) := by decide +kernel
theorem dX6_must_34 : decode cX6_must 34 = .ok (.imul, 1) := by decide +kernel
theorem dX6_must_35 : decode cX6_must 35 = .ok (.iload_n 2, 1) := by decide +kernel
theorem dX6_must_36 : decode cX6_must 36 = .ok (.iadd, 1) := by decide +kernel
theorem dX6_must_37 : decode cX6_must 37 = .ok (.iload 4, 2) := by decide +kernel
theorem dX6_must_39 : decode cX6_must 39 = .ok (.bastore, 1) := by decide +kernel
theorem dX6_must_40 : decode cX6_must 40 = .ok (.goto 16, 3) := by decide +kernel
theorem dX6_must_43 : decode cX6_must 43 = .ok (.aload_n 0, 1) := by decide +kernel
theorem dX6_must_44 : decode cX6_must 44 = .ok (.getfield 35, 3) := by decide +kernel
theorem dX6_must_47 : decode cX6_must 47 = .ok (.bipush 9, 2) := by decide +kernel
theorem dX6_must_49 : decode cX6_must 49 = .ok (.iload_n 1, 1) := by decide +kernel
theorem dX6_must_50 : decode cX6_must 50 = .ok (.imul, 1) := by decide +kernel
theorem dX6_must_51 : decode cX6_must 51 = .ok (.iload_n 2, 1) := by decide +kernel
theorem dX6_must_52 : decode cX6_must 52 = .ok (.iadd, 1) := by decide +kernel
theorem dX6_must_53 : decode cX6_must 53 = .ok (.iload 4, 2) := by decide +kernel
theorem dX6_must_55 : decode cX6_must 55 = .ok (.bastore, 1) := by decide +kernel
theorem dX6_must_56 : decode cX6_must 56 = .ok (.iconst 1, 1) := by decide +kernel
theorem dX6_must_57 : decode cX6_must 57 = .ok (.ireturn, 1) := by decide +kernel
theorem dX6_apart_0 : decode cX6_apart 0 = .ok (.iload_n 0, 1) := by decide +kernel
theorem dX6_apart_1 : decode cX6_apart 1 = .ok (.iload_n 1, 1) := by decide +kernel
theorem dX6_apart_2 : decode cX6_apart 2 = .ok (.if_icmp .le 9, 3) := by decide +kernel
theorem dX6_apart_5 : decode cX6_apart 5 = .ok (.iload_n 0, 1) := by decide +kernel
theorem dX6_apart_6 : decode cX6_apart 6 = .ok (.iload_n 1, 1) := by decide +kernel
theorem dX6_apart_7 : decode cX6_apart 7 = .ok (.isub, 1) := by decide +kernel
theorem dX6_apart_8 : decode cX6_apart 8 = .ok (.goto 6, 3) := by decide +kernel
theorem dX6_apart_11 : decode cX6_apart 11 = .ok (.iload_n 1, 1) := by decide +kernel
theorem dX6_apart_12 : decode cX6_apart 12 = .ok (.iload_n 0, 1) := by decide +kernel
theorem dX6_apart_13 : decode cX6_apart 13 = .ok (.isub, 1) := by decide +kernel
theorem dX6_apart_14 : decode cX6_apart 14 = .ok (.ireturn, 1) := by decide +kernel
set_option maxRecDepth 20000 in
theorem ggX6_whole_X6_apart : GoodIn wsX6_whole wsX6_apart := goodIn_r _ [11] (by decide +kernel) (by decide +kernel)
set_option maxRecDepth 20000 in
theorem gX6_whole_X6_apart : GoodIn wsX6_whole (va_wsS RX6 72 yX6_apart wsX6_apart) := goodIn_app (goodIn_of _ (by decide +kernel)) ggX6_whole_X6_apart
theorem dX6_whole_0 : decode cX6_whole 0 = .ok (.iconst 2, 1) := by decide +kernel
theorem dX6_whole_1 : decode cX6_whole 1 = .ok (.iload_n 1, 1) := by decide +kernel
theorem dX6_whole_2 : decode cX6_whole 2 = .ok (.imul, 1) := by decide +kernel
theorem dX6_whole_3 : decode cX6_whole 3 = .ok (.iconst 1, 1) := by decide +kernel
theorem dX6_whole_4 : decode cX6_whole 4 = .ok (.iadd, 1) := by decide +kernel
theorem dX6_whole_5 : decode cX6_whole 5 = .ok (.iload_n 2, 1) := by decide +kernel
theorem dX6_whole_6 : decode cX6_whole 6 = .ok (.isub, 1) := by decide +kernel
theorem dX6_whole_7 : decode cX6_whole 7 = .ok (.istore 5, 2) := by decide +kernel
theorem dX6_whole_9 : decode cX6_whole 9 = .ok (.iconst 2, 1) := by decide +kernel
theorem dX6_whole_10 : decode cX6_whole 10 = .ok (.iload_n 3, 1) := by decide +kernel
theorem dX6_whole_11 : decode cX6_whole 11 = .ok (.imul, 1) := by decide +kernel
theorem dX6_whole_12 : decode cX6_whole 12 = .ok (.iload 4, 2) := by decide +kernel
theorem dX6_whole_14 : decode cX6_whole 14 = .ok (.iadd, 1) := by decide +kernel
theorem dX6_whole_15 : decode cX6_whole 15 = .ok (.istore 6, 2) := by decide +kernel
theorem dX6_whole_17 : decode cX6_whole 17 = .ok (.aload_n 0, 1) := by decide +kernel
theorem dX6_whole_18 : decode cX6_whole 18 = .ok (.getfield 28, 3) := by decide +kernel
theorem dX6_whole_21 : decode cX6_whole 21 = .ok (.iconst 0, 1) := by decide +kernel
theorem dX6_whole_22 : decode cX6_whole 22 = .ok (.iaload, 1) := by decide +kernel
theorem dX6_whole_23 : decode cX6_whole 23 = .ok (.aload_n 0, 1) := by decide +kernel
theorem dX6_whole_24 : decode cX6_whole 24 = .ok (.getfield 13, 3) := by decide +kernel
theorem dX6_whole_27 : decode cX6_whole 27 = .ok (.iload 5, 2) := by decide +kernel
theorem dX6_whole_29 : decode cX6_whole 29 = .ok (.iaload, 1) := by decide +kernel
theorem dX6_whole_30 : decode cX6_whole 30 = .ok (.aload_n 0, 1) := by decide +kernel
theorem dX6_whole_31 : decode cX6_whole 31 = .ok (.getfield 7, 3) := by decide +kernel
theorem dX6_whole_34 : decode cX6_whole 34 = .ok (.iload 6, 2) := by decide +kernel
theorem dX6_whole_36 : decode cX6_whole 36 = .ok (.iaload, 1) := by decide +kernel
theorem dX6_whole_37 : decode cX6_whole 37 = .ok (.invokestatic 72, 3) := by decide +kernel
theorem dX6_whole_40 : decode cX6_whole 40 = .ok (.imul, 1) := by decide +kernel
theorem dX6_whole_41 : decode cX6_whole 41 = .ok (.istore 7, 2) := by decide +kernel
theorem dX6_whole_43 : decode cX6_whole 43 = .ok (.iload 7, 2) := by decide +kernel
theorem dX6_whole_45 : decode cX6_whole 45 = .ok (.aload_n 0, 1) := by decide +kernel
theorem dX6_whole_46 : decode cX6_whole 46 = .ok (.getfield 16, 3) := by decide +kernel
theorem dX6_whole_49 : decode cX6_whole 49 = .ok (.iload 5, 2) := by decide +kernel
theorem dX6_whole_51 : decode cX6_whole 51 = .ok (.iaload, 1) := by decide +kernel
theorem dX6_whole_52 : decode cX6_whole 52 = .ok (.iconst (-1), 1) := by decide +kernel
theorem dX6_whole_53 : decode cX6_whole 53 = .ok (.if_icmp .eq 29, 3) := by decide +kernel
theorem dX6_whole_56 : decode cX6_whole 56 = .ok (.aload_n 0, 1) := by decide +kernel
theorem dX6_whole_57 : decode cX6_whole 57 = .ok (.getfield 16, 3) := by decide +kernel
theorem dX6_whole_60 : decode cX6_whole 60 = .ok (.iload 5, 2) := by decide +kernel
theorem dX6_whole_62 : decode cX6_whole 62 = .ok (.iaload, 1) := by decide +kernel
theorem dX6_whole_63 : decode cX6_whole 63 = .ok (.aload_n 0, 1) := by decide +kernel
theorem dX6_whole_64 : decode cX6_whole 64 = .ok (.getfield 7, 3) := by decide +kernel
theorem dX6_whole_67 : decode cX6_whole 67 = .ok (.iload 6, 2) := by decide +kernel
theorem dX6_whole_69 : decode cX6_whole 69 = .ok (.iaload, 1) := by decide +kernel
theorem dX6_whole_70 : decode cX6_whole 70 = .ok (.if_icmp .eq 12, 3) := by decide +kernel
theorem dX6_whole_73 : decode cX6_whole 73 = .ok (.aload_n 0, 1) := by decide +kernel
theorem dX6_whole_74 : decode cX6_whole 74 = .ok (.getfield 28, 3) := by decide +kernel
theorem dX6_whole_77 : decode cX6_whole 77 = .ok (.iconst 2, 1) := by decide +kernel
theorem dX6_whole_78 : decode cX6_whole 78 = .ok (.iaload, 1) := by decide +kernel
theorem dX6_whole_79 : decode cX6_whole 79 = .ok (.goto 4, 3) := by decide +kernel
theorem dX6_whole_82 : decode cX6_whole 82 = .ok (.iconst 0, 1) := by decide +kernel
theorem dX6_whole_83 : decode cX6_whole 83 = .ok (.iadd, 1) := by decide +kernel
theorem dX6_whole_84 : decode cX6_whole 84 = .ok (.istore 7, 2) := by decide +kernel
theorem dX6_whole_86 : decode cX6_whole 86 = .ok (.iload 7, 2) := by decide +kernel
theorem dX6_whole_88 : decode cX6_whole 88 = .ok (.aload_n 0, 1) := by decide +kernel
theorem dX6_whole_89 : decode cX6_whole 89 = .ok (.getfield 22, 3) := by decide +kernel
theorem dX6_whole_92 : decode cX6_whole 92 = .ok (.iload 5, 2) := by decide +kernel
theorem dX6_whole_94 : decode cX6_whole 94 = .ok (.iaload, 1) := by decide +kernel
theorem dX6_whole_95 : decode cX6_whole 95 = .ok (.aload_n 0, 1) := by decide +kernel
theorem dX6_whole_96 : decode cX6_whole 96 = .ok (.getfield 19, 3) := by decide +kernel
theorem dX6_whole_99 : decode cX6_whole 99 = .ok (.iload 6, 2) := by decide +kernel
theorem dX6_whole_101 : decode cX6_whole 101 = .ok (.iaload, 1) := by decide +kernel
theorem dX6_whole_102 : decode cX6_whole 102 = .ok (.if_icmp .eq 12, 3) := by decide +kernel
theorem dX6_whole_105 : decode cX6_whole 105 = .ok (.aload_n 0, 1) := by decide +kernel
theorem dX6_whole_106 : decode cX6_whole 106 = .ok (.getfield 28, 3) := by decide +kernel
theorem dX6_whole_109 : decode cX6_whole 109 = .ok (.iconst 3, 1) := by decide +kernel
theorem dX6_whole_110 : decode cX6_whole 110 = .ok (.iaload, 1) := by decide +kernel
theorem dX6_whole_111 : decode cX6_whole 111 = .ok (.goto 4, 3) := by decide +kernel
theorem dX6_whole_114 : decode cX6_whole 114 = .ok (.iconst 0, 1) := by decide +kernel
theorem dX6_whole_115 : decode cX6_whole 115 = .ok (.iadd, 1) := by decide +kernel
theorem dX6_whole_116 : decode cX6_whole 116 = .ok (.istore 7, 2) := by decide +kernel
theorem dX6_whole_118 : decode cX6_whole 118 = .ok (.iconst 0, 1) := by decide +kernel
theorem dX6_whole_119 : decode cX6_whole 119 = .ok (.istore 8, 2) := by decide +kernel
theorem dX6_whole_121 : decode cX6_whole 121 = .ok (.iload 8, 2) := by decide +kernel
theorem dX6_whole_123 : decode cX6_whole 123 = .ok (.iconst 3, 1) := by decide +kernel
theorem dX6_whole_124 : decode cX6_whole 124 = .ok (.if_icmp .ge 46, 3) := by decide +kernel
theorem dX6_whole_127 : decode cX6_whole 127 = .ok (.iload 7, 2) := by decide +kernel
theorem dX6_whole_129 : decode cX6_whole 129 = .ok (.aload_n 0, 1) := by decide +kernel
theorem dX6_whole_130 : decode cX6_whole 130 = .ok (.getfield 28, 3) := by decide +kernel
theorem dX6_whole_133 : decode cX6_whole 133 = .ok (.iconst 1, 1) := by decide +kernel
theorem dX6_whole_134 : decode cX6_whole 134 = .ok (.iaload, 1) := by decide +kernel
theorem dX6_whole_135 : decode cX6_whole 135 = .ok (.aload_n 0, 1) := by decide +kernel
theorem dX6_whole_136 : decode cX6_whole 136 = .ok (.getfield 25, 3) := by decide +kernel
theorem dX6_whole_139 : decode cX6_whole 139 = .ok (.iconst 3, 1) := by decide +kernel
theorem dX6_whole_140 : decode cX6_whole 140 = .ok (.iload_n 1, 1) := by decide +kernel
theorem dX6_whole_141 : decode cX6_whole 141 = .ok (.imul, 1) := by decide +kernel
theorem dX6_whole_142 : decode cX6_whole 142 = .ok (.iload 8, 2) := by decide +kernel
theorem dX6_whole_144 : decode cX6_whole 144 = .ok (.iadd, 1) := by decide +kernel
theorem dX6_whole_145 : decode cX6_whole 145 = .ok (.iaload, 1) := by decide +kernel
theorem dX6_whole_146 : decode cX6_whole 146 = .ok (.aload_n 0, 1) := by decide +kernel
theorem dX6_whole_147 : decode cX6_whole 147 = .ok (.getfield 25, 3) := by decide +kernel
theorem dX6_whole_150 : decode cX6_whole 150 = .ok (.iconst 3, 1) := by decide +kernel
theorem dX6_whole_151 : decode cX6_whole 151 = .ok (.iload_n 3, 1) := by decide +kernel
theorem dX6_whole_152 : decode cX6_whole 152 = .ok (.imul, 1) := by decide +kernel
theorem dX6_whole_153 : decode cX6_whole 153 = .ok (.iload 8, 2) := by decide +kernel
theorem dX6_whole_155 : decode cX6_whole 155 = .ok (.iadd, 1) := by decide +kernel
theorem dX6_whole_156 : decode cX6_whole 156 = .ok (.iaload, 1) := by decide +kernel
theorem dX6_whole_157 : decode cX6_whole 157 = .ok (.invokestatic 72, 3) := by decide +kernel
theorem dX6_whole_160 : decode cX6_whole 160 = .ok (.imul, 1) := by decide +kernel
theorem dX6_whole_161 : decode cX6_whole 161 = .ok (.iadd, 1) := by decide +kernel
theorem dX6_whole_162 : decode cX6_whole 162 = .ok (.istore 7, 2) := by decide +kernel
theorem dX6_whole_164 : decode cX6_whole 164 = .ok (.iinc 8 1, 3) := by decide +kernel
theorem dX6_whole_167 : decode cX6_whole 167 = .ok (.goto (-46), 3) := by decide +kernel
theorem dX6_whole_170 : decode cX6_whole 170 = .ok (.iload 7, 2) := by decide +kernel
theorem dX6_whole_172 : decode cX6_whole 172 = .ok (.ireturn, 1) := by decide +kernel
set_option maxRecDepth 20000 in
theorem ggX6_isMissing_X6_whole : GoodIn wsX6_isMissing wsX6_whole := goodIn_r _ [6, 1, 7, 8, 9, 10, 11, 12, 13, 14, 5, 15, 16, 17, 18, 19, 20, 21, 22, 23, 24, 25, 26, 27, 28, 29, 30, 31, 32, 33, 34, 35] (by decide +kernel) (by decide +kernel)
set_option maxRecDepth 20000 in
theorem gX6_isMissing_X6_whole : GoodIn wsX6_isMissing (wsV RX6 76 RX6 yX6_whole wsX6_whole) := goodIn_app (goodIn_of _ (by decide +kernel)) ggX6_isMissing_X6_whole
theorem dX6_isMissing_0 : decode cX6_isMissing 0 = .ok (.aload_n 0, 1) := by decide +kernel
theorem dX6_isMissing_1 : decode cX6_isMissing 1 = .ok (.getfield 28, 3) := by decide +kernel
theorem dX6_isMissing_4 : decode cX6_isMissing 4 = .ok (.iconst 5, 1) := by decide +kernel
theorem dX6_isMissing_5 : decode cX6_isMissing 5 = .ok (.iaload, 1) := by decide +kernel
theorem dX6_isMissing_6 : decode cX6_isMissing 6 = .ok (.ifCond .le 25, 3) := by decide +kernel
theorem dX6_isMissing_9 : decode cX6_isMissing 9 = .ok (.aload_n 0, 1) := by decide +kernel
theorem dX6_isMissing_10 : decode cX6_isMissing 10 = .ok (.iload_n 1, 1) := by decide +kernel
theorem dX6_isMissing_11 : decode cX6_isMissing 11 = .ok (.iload_n 2, 1) := by decide +kernel
theorem dX6_isMissing_12 : decode cX6_isMissing 12 = .ok (.iload_n 3, 1) := by decide +kernel
theorem dX6_isMissing_13 : decode cX6_isMissing 13 = .ok (.iload 4, 2) := by decide +kernel
theorem dX6_isMissing_15 : decode cX6_isMissing 15 = .ok (.invokevirtual 76, 3) := by decide +kernel
theorem dX6_isMissing_18 : decode cX6_isMissing 18 = .ok (.aload_n 0, 1) := by decide +kernel
theorem dX6_isMissing_19 : decode cX6_isMissing 19 = .ok (.getfield 28, 3) := by decide +kernel
theorem dX6_isMissing_22 : decode cX6_isMissing 22 = .ok (.iconst 5, 1) := by decide +kernel
theorem dX6_isMissing_23 : decode cX6_isMissing 23 = .ok (.iaload, 1) := by decide +kernel
theorem dX6_isMissing_24 : decode cX6_isMissing 24 = .ok (.if_icmp .le 7, 3) := by decide +kernel
theorem dX6_isMissing_27 : decode cX6_isMissing 27 = .ok (.iconst 1, 1) := by decide +kernel
theorem dX6_isMissing_28 : decode cX6_isMissing 28 = .ok (.goto 4, 3) := by decide +kernel
theorem dX6_isMissing_31 : decode cX6_isMissing 31 = .ok (.iconst 0, 1) := by decide +kernel
theorem dX6_isMissing_32 : decode cX6_isMissing 32 = .ok (.ireturn, 1) := by decide +kernel
set_option maxRecDepth 20000 in
theorem ggX6_joins_X6_isMissing : GoodIn wsX6_joins wsX6_isMissing := goodIn_r _ [6, 1, 7, 8, 9, 5, 10, 11, 12, 13, 14, 15, 16, 17, 18, 19, 20, 21, 22, 23, 24, 25, 26, 27, 28, 29, 30, 31, 32, 33, 34, 35, 36, 37, 38, 39] (by decide +kernel) (by decide +kernel)
set_option maxRecDepth 20000 in
theorem gX6_joins_X6_isMissing : GoodIn wsX6_joins (wsV RX6 80 RX6 yX6_isMissing wsX6_isMissing) := goodIn_app (goodIn_of _ (by decide +kernel)) ggX6_joins_X6_isMissing
set_option maxRecDepth 20000 in
theorem ggX6_joins_X6_whole : GoodIn wsX6_joins wsX6_whole := goodIn_r _ [10, 1, 11, 12, 13, 14, 15, 16, 17, 18, 5, 19, 20, 21, 22, 23, 24, 25, 26, 27, 28, 29, 30, 31, 32, 33, 34, 35, 36, 37, 38, 39] (by decide +kernel) (by decide +kernel)
set_option maxRecDepth 20000 in
theorem gX6_joins_X6_whole : GoodIn wsX6_joins (wsV RX6 76 RX6 yX6_whole wsX6_whole) := goodIn_app (goodIn_of _ (by decide +kernel)) ggX6_joins_X6_whole
theorem dX6_joins_0 : decode cX6_joins 0 = .ok (.aload_n 0, 1) := by decide +kernel
theorem dX6_joins_1 : decode cX6_joins 1 = .ok (.iload_n 1, 1) := by decide +kernel
theorem dX6_joins_2 : decode cX6_joins 2 = .ok (.iload_n 2, 1) := by decide +kernel
theorem dX6_joins_3 : decode cX6_joins 3 = .ok (.iload_n 3, 1) := by decide +kernel
theorem dX6_joins_4 : decode cX6_joins 4 = .ok (.iload 4, 2) := by decide +kernel
theorem dX6_joins_6 : decode cX6_joins 6 = .ok (.invokevirtual 80, 3) := by decide +kernel
theorem dX6_joins_9 : decode cX6_joins 9 = .ok (.ifCond .eq 12, 3) := by decide +kernel
theorem dX6_joins_12 : decode cX6_joins 12 = .ok (.aload_n 0, 1) := by decide +kernel
theorem dX6_joins_13 : decode cX6_joins 13 = .ok (.getfield 28, 3) := by decide +kernel
theorem dX6_joins_16 : decode cX6_joins 16 = .ok (.iconst 5, 1) := by decide +kernel
theorem dX6_joins_17 : decode cX6_joins 17 = .ok (.iaload, 1) := by decide +kernel
theorem dX6_joins_18 : decode cX6_joins 18 = .ok (.goto 12, 3) := by decide +kernel
theorem dX6_joins_21 : decode cX6_joins 21 = .ok (.aload_n 0, 1) := by decide +kernel
theorem dX6_joins_22 : decode cX6_joins 22 = .ok (.iload_n 1, 1) := by decide +kernel
theorem dX6_joins_23 : decode cX6_joins 23 = .ok (.iload_n 2, 1) := by decide +kernel
theorem dX6_joins_24 : decode cX6_joins 24 = .ok (.iload_n 3, 1) := by decide +kernel
theorem dX6_joins_25 : decode cX6_joins 25 = .ok (.iload 4, 2) := by decide +kernel
theorem dX6_joins_27 : decode cX6_joins 27 = .ok (.invokevirtual 76, 3) := by decide +kernel
theorem dX6_joins_30 : decode cX6_joins 30 = .ok (.ireturn, 1) := by decide +kernel
set_option maxRecDepth 20000 in
theorem ggX6_join_X6_isLeaf : GoodIn wsX6_join wsX6_isLeaf := goodIn_r _ [6, 7, 8, 9, 5, 10, 33, 34, 35, 36, 37, 38, 39, 40, 41, 42, 43, 44, 45, 46, 47, 48, 49, 50, 51, 52] (by decide +kernel) (by decide +kernel)
set_option maxRecDepth 20000 in
theorem gX6_join_X6_isLeaf : GoodIn wsX6_join (wsV RX6 68 RX6 yX6_isLeaf wsX6_isLeaf) := goodIn_app (goodIn_of _ (by decide +kernel)) ggX6_join_X6_isLeaf
set_option maxRecDepth 20000 in
theorem ggX6_join_X6_joins : GoodIn wsX6_join wsX6_joins := goodIn_r _ [14, 15, 16, 17, 18, 5, 19, 20, 21, 22, 23, 24, 25, 26, 27, 28, 29, 30, 31, 32, 33, 34, 35, 36, 37, 38, 39, 40, 41, 42, 43, 44, 45, 46, 47, 48, 49, 50, 51, 52] (by decide +kernel) (by decide +kernel)
set_option maxRecDepth 20000 in
theorem gX6_join_X6_joins : GoodIn wsX6_join (wsV RX6 84 RX6 yX6_joins wsX6_joins) := goodIn_app (goodIn_of _ (by decide +kernel)) ggX6_join_X6_joins
theorem dX6_join_0 : decode cX6_join 0 = .ok (.aload_n 0, 1) := by decide +kernel
theorem dX6_join_1 : decode cX6_join 1 = .ok (.iload_n 1, 1) := by decide +kernel
theorem dX6_join_2 : decode cX6_join 2 = .ok (.invokevirtual 68, 3) := by decide +kernel
theorem dX6_join_5 : decode cX6_join 5 = .ok (.ifCond .eq 32, 3) := by decide +kernel
theorem dX6_join_8 : decode cX6_join 8 = .ok (.aload_n 0, 1) := by decide +kernel
theorem dX6_join_9 : decode cX6_join 9 = .ok (.iload_n 3, 1) := by decide +kernel
theorem dX6_join_10 : decode cX6_join 10 = .ok (.invokevirtual 68, 3) := by decide +kernel
theorem dX6_join_13 : decode cX6_join 13 = .ok (.ifCond .eq 24, 3) := by decide +kernel
theorem dX6_join_16 : decode cX6_join 16 = .ok (.iload_n 1, 1) := by decide +kernel
theorem dX6_join_17 : decode cX6_join 17 = .ok (.iload_n 3, 1) := by decide +kernel
theorem dX6_join_18 : decode cX6_join 18 = .ok (.if_icmp .eq 19, 3) := by decide +kernel
theorem dX6_join_21 : decode cX6_join 21 = .ok (.aload_n 0, 1) := by decide +kernel
theorem dX6_join_22 : decode cX6_join 22 = .ok (.getfield 31, 3) := by decide +kernel
theorem dX6_join_25 : decode cX6_join 25 = .ok (.ifCond .ne 14, 3) := by decide +kernel
theorem dX6_join_28 : decode cX6_join 28 = .ok (.iload_n 2, 1) := by decide +kernel
theorem dX6_join_29 : decode cX6_join 29 = .ok (.ifCond .ne 8, 3) := by decide +kernel
theorem dX6_join_32 : decode cX6_join 32 = .ok (.iload 4, 2) := by decide +kernel
theorem dX6_join_34 : decode cX6_join 34 = .ok (.ifCond .eq 5, 3) := by decide +kernel
theorem dX6_join_37 : decode cX6_join 37 = .ok (.iconst (-1), 1) := by decide +kernel
theorem dX6_join_38 : decode cX6_join 38 = .ok (.ireturn, 1) := by decide +kernel
theorem dX6_join_39 : decode cX6_join 39 = .ok (.aload_n 0, 1) := by decide +kernel
theorem dX6_join_40 : decode cX6_join 40 = .ok (.iload_n 1, 1) := by decide +kernel
theorem dX6_join_41 : decode cX6_join 41 = .ok (.iload_n 2, 1) := by decide +kernel
theorem dX6_join_42 : decode cX6_join 42 = .ok (.ifCond .eq 7, 3) := by decide +kernel
theorem dX6_join_45 : decode cX6_join 45 = .ok (.iconst 1, 1) := by decide +kernel
theorem dX6_join_46 : decode cX6_join 46 = .ok (.goto 4, 3) := by decide +kernel
theorem dX6_join_49 : decode cX6_join 49 = .ok (.iconst 0, 1) := by decide +kernel
theorem dX6_join_50 : decode cX6_join 50 = .ok (.iload_n 3, 1) := by decide +kernel
theorem dX6_join_51 : decode cX6_join 51 = .ok (.iload 4, 2) := by decide +kernel
theorem dX6_join_53 : decode cX6_join 53 = .ok (.ifCond .eq 7, 3) := by decide +kernel
theorem dX6_join_56 : decode cX6_join 56 = .ok (.iconst 1, 1) := by decide +kernel
theorem dX6_join_57 : decode cX6_join 57 = .ok (.goto 4, 3) := by decide +kernel
theorem dX6_join_60 : decode cX6_join 60 = .ok (.iconst 0, 1) := by decide +kernel
theorem dX6_join_61 : decode cX6_join 61 = .ok (.invokevirtual 84, 3) := by decide +kernel
theorem dX6_join_64 : decode cX6_join 64 = .ok (.ireturn, 1) := by decide +kernel
theorem dX6_mayFollow_0 : decode cX6_mayFollow 0 = .ok (.iconst 0, 1) := by decide +kernel
theorem dX6_mayFollow_1 : decode cX6_mayFollow 1 = .ok (.istore 4, 2) := by decide +kernel
theorem dX6_mayFollow_3 : decode cX6_mayFollow 3 = .ok (.iload 4, 2) := by decide +kernel
theorem dX6_mayFollow_5 : decode cX6_mayFollow 5 = .ok (.aload_n 0, 1) := by decide +kernel
theorem dX6_mayFollow_6 : decode cX6_mayFollow 6 = .ok (.getfield 61, 3) := by decide +kernel
theorem dX6_mayFollow_9 : decode cX6_mayFollow 9 = .ok (.if_icmp .ge 74, 3) := by decide +kernel
theorem dX6_mayFollow_12 : decode cX6_mayFollow 12 = .ok (.iload_n 1, 1) := by decide +kernel
theorem dX6_mayFollow_13 : decode cX6_mayFollow 13 = .ok (.iload 4, 2) := by decide +kernel
theorem dX6_mayFollow_15 : decode cX6_mayFollow 15 = .ok (.ishr, 1) := by decide +kernel
theorem dX6_mayFollow_16 : decode cX6_mayFollow 16 = .ok (.iconst 1, 1) := by decide +kernel
theorem dX6_mayFollow_17 : decode cX6_mayFollow 17 = .ok (.iand, 1) := by decide +kernel
theorem dX6_mayFollow_18 : decode cX6_mayFollow 18 = .ok (.ifCond .ne 6, 3) := by decide +kernel
theorem dX6_mayFollow_21 : decode cX6_mayFollow 21 = .ok (.goto 56, 3) := by decide +kernel
theorem dX6_mayFollow_24 : decode cX6_mayFollow 24 = .ok (.aload_n 0, 1) := by decide +kernel
theorem dX6_mayFollow_25 : decode cX6_mayFollow 25 = .ok (.getfield 35, 3) := by decide +kernel
theorem dX6_mayFollow_28 : decode cX6_mayFollow 28 = .ok (.bipush 9, 2) := by decide +kernel
theorem dX6_mayFollow_30 : decode cX6_mayFollow 30 = .ok (.iload_n 3, 1) := by decide +kernel
theorem dX6_mayFollow_31 : decode cX6_mayFollow 31 = .ok (.imul, 1) := by decide +kernel
theorem dX6_mayFollow_32 : decode cX6_mayFollow 32 = .ok (.iload 4, 2) := by decide +kernel
theorem dX6_mayFollow_34 : decode cX6_mayFollow 34 = .ok (.iadd, 1) := by decide +kernel
theorem dX6_mayFollow_35 : decode cX6_mayFollow 35 = .ok (.baload, 1) := by decide +kernel
theorem dX6_mayFollow_36 : decode cX6_mayFollow 36 = .ok (.ifCond .ne 39, 3) := by decide +kernel
theorem dX6_mayFollow_39 : decode cX6_mayFollow 39 = .ok (.aload_n 0, 1) := by decide +kernel
theorem dX6_mayFollow_40 : decode cX6_mayFollow 40 = .ok (.getfield 39, 3) := by decide +kernel
theorem dX6_mayFollow_43 : decode cX6_mayFollow 43 = .ok (.bipush 9, 2) := by decide +kernel
theorem dX6_mayFollow_45 : decode cX6_mayFollow 45 = .ok (.iload_n 3, 1) := by decide +kernel
theorem dX6_mayFollow_46 : decode cX6_mayFollow 46 = .ok (.imul, 1) := by decide +kernel
theorem dX6_mayFollow_47 : decode cX6_mayFollow 47 = .ok (.iload 4, 2) := by decide +kernel
theorem dX6_mayFollow_49 : decode cX6_mayFollow 49 = .ok (.iadd, 1) := by decide +kernel
theorem dX6_mayFollow_50 : decode cX6_mayFollow 50 = .ok (.baload, 1) := by decide +kernel
theorem dX6_mayFollow_51 : decode cX6_mayFollow 51 = .ok (.ifCond .ne 24, 3) := by decide +kernel
theorem dX6_mayFollow_54 : decode cX6_mayFollow 54 = .ok (.aload_n 0, 1) := by decide +kernel
theorem dX6_mayFollow_55 : decode cX6_mayFollow 55 = .ok (.getfield 39, 3) := by decide +kernel
theorem dX6_mayFollow_58 : decode cX6_mayFollow 58 = .ok (.bipush 9, 2) := by decide +kernel
theorem dX6_mayFollow_60 : decode cX6_mayFollow 60 = .ok (.iload 4, 2) := by decide +kernel
theorem dX6_mayFollow_62 : decode cX6_mayFollow 62 = .ok (.imul, 1) := by decide +kernel
theorem dX6_mayFollow_63 : decode cX6_mayFollow 63 = .ok (.iload_n 3, 1) := by decide +kernel
theorem dX6_mayFollow_64 : decode cX6_mayFollow 64 = .ok (.iadd, 1) := by decide +kernel
theorem dX6_mayFollow_65 : decode cX6_mayFollow 65 = .ok (.baload, 1) := by decide +kernel
theorem dX6_mayFollow_66 : decode cX6_mayFollow 66 = .ok (.ifCond .eq 11, 3) := by decide +kernel
theorem dX6_mayFollow_69 : decode cX6_mayFollow 69 = .ok (.iload 4, 2) := by decide +kernel
theorem dX6_mayFollow_71 : decode cX6_mayFollow 71 = .ok (.iload_n 2, 1) := by decide +kernel
theorem dX6_mayFollow_72 : decode cX6_mayFollow 72 = .ok (.if_icmp .eq 5, 3) := by decide +kernel
theorem dX6_mayFollow_75 : decode cX6_mayFollow 75 = .ok (.iconst 0, 1) := by decide +kernel
theorem dX6_mayFollow_76 : decode cX6_mayFollow 76 = .ok (.ireturn, 1) := by decide +kernel
theorem dX6_mayFollow_77 : decode cX6_mayFollow 77 = .ok (.iinc 4 1, 3) := by decide +kernel
theorem dX6_mayFollow_80 : decode cX6_mayFollow 80 = .ok (.goto (-77), 3) := by decide +kernel
theorem dX6_mayFollow_83 : decode cX6_mayFollow 83 = .ok (.iload_n 2, 1) := by decide +kernel
theorem dX6_mayFollow_84 : decode cX6_mayFollow 84 = .ok (.aload_n 0, 1) := by decide +kernel
theorem dX6_mayFollow_85 : decode cX6_mayFollow 85 = .ok (.getfield 48, 3) := by decide +kernel
theorem dX6_mayFollow_88 : decode cX6_mayFollow 88 = .ok (.if_icmp .ne 16, 3) := by decide +kernel
theorem dX6_mayFollow_91 : decode cX6_mayFollow 91 = .ok (.iload_n 3, 1) := by decide +kernel
theorem dX6_mayFollow_92 : decode cX6_mayFollow 92 = .ok (.aload_n 0, 1) := by decide +kernel
theorem dX6_mayFollow_93 : decode cX6_mayFollow 93 = .ok (.getfield 52, 3) := by decide +kernel
theorem dX6_mayFollow_96 : decode cX6_mayFollow 96 = .ok (.if_icmp .ne 8, 3) := by decide +kernel
theorem dX6_mayFollow_99 : decode cX6_mayFollow 99 = .ok (.iload_n 2, 1) := by decide +kernel
theorem dX6_mayFollow_100 : decode cX6_mayFollow 100 = .ok (.iconst (-1), 1) := by decide +kernel
theorem dX6_mayFollow_101 : decode cX6_mayFollow 101 = .ok (.if_icmp .ne 7, 3) := by decide +kernel
theorem dX6_mayFollow_104 : decode cX6_mayFollow 104 = .ok (.iconst 1, 1) := by decide +kernel
theorem dX6_mayFollow_105 : decode cX6_mayFollow 105 = .ok (.goto 4, 3) := by decide +kernel
theorem dX6_mayFollow_108 : decode cX6_mayFollow 108 = .ok (.iconst 0, 1) := by decide +kernel
theorem dX6_mayFollow_109 : decode cX6_mayFollow 109 = .ok (.ireturn, 1) := by decide +kernel
theorem dX6_keeps_0 : decode cX6_keeps 0 = .ok (.iload_n 2, 1) := by decide +kernel
theorem dX6_keeps_1 : decode cX6_keeps 1 = .ok (.aload_n 0, 1) := by decide +kernel
theorem dX6_keeps_2 : decode cX6_keeps 2 = .ok (.getfield 42, 3) := by decide +kernel
theorem dX6_keeps_5 : decode cX6_keeps 5 = .ok (.iload_n 1, 1) := by decide +kernel
theorem dX6_keeps_6 : decode cX6_keeps 6 = .ok (.iaload, 1) := by decide +kernel
theorem dX6_keeps_7 : decode cX6_keeps 7 = .ok (.if_icmp .ge 25, 3) := by decide +kernel
theorem dX6_keeps_10 : decode cX6_keeps 10 = .ok (.aload_n 0, 1) := by decide +kernel
theorem dX6_keeps_11 : decode cX6_keeps 11 = .ok (.getfield 45, 3) := by decide +kernel
theorem dX6_keeps_14 : decode cX6_keeps 14 = .ok (.iload_n 1, 1) := by decide +kernel
theorem dX6_keeps_15 : decode cX6_keeps 15 = .ok (.aload_n 0, 1) := by decide +kernel
theorem dX6_keeps_16 : decode cX6_keeps 16 = .ok (.getfield 42, 3) := by decide +kernel
theorem dX6_keeps_19 : decode cX6_keeps 19 = .ok (.iload_n 1, 1) := by decide +kernel
theorem dX6_keeps_20 : decode cX6_keeps 20 = .ok (.iaload, 1) := by decide +kernel
theorem dX6_keeps_21 : decode cX6_keeps 21 = .ok (.iastore, 1) := by decide +kernel
theorem dX6_keeps_22 : decode cX6_keeps 22 = .ok (.aload_n 0, 1) := by decide +kernel
theorem dX6_keeps_23 : decode cX6_keeps 23 = .ok (.getfield 42, 3) := by decide +kernel
theorem dX6_keeps_26 : decode cX6_keeps 26 = .ok (.iload_n 1, 1) := by decide +kernel
theorem dX6_keeps_27 : decode cX6_keeps 27 = .ok (.iload_n 2, 1) := by decide +kernel
theorem dX6_keeps_28 : decode cX6_keeps 28 = .ok (.iastore, 1) := by decide +kernel
theorem dX6_keeps_29 : decode cX6_keeps 29 = .ok (.goto 20, 3) := by decide +kernel
theorem dX6_keeps_32 : decode cX6_keeps 32 = .ok (.iload_n 2, 1) := by decide +kernel
theorem dX6_keeps_33 : decode cX6_keeps 33 = .ok (.aload_n 0, 1) := by decide +kernel
theorem dX6_keeps_34 : decode cX6_keeps 34 = .ok (.getfield 45, 3) := by decide +kernel
theorem dX6_keeps_37 : decode cX6_keeps 37 = .ok (.iload_n 1, 1) := by decide +kernel
theorem dX6_keeps_38 : decode cX6_keeps 38 = .ok (.iaload, 1) := by decide +kernel
theorem dX6_keeps_39 : decode cX6_keeps 39 = .ok (.if_icmp .ge 10, 3) := by decide +kernel
theorem dX6_keeps_42 : decode cX6_keeps 42 = .ok (.aload_n 0, 1) := by decide +kernel
theorem dX6_keeps_43 : decode cX6_keeps 43 = .ok (.getfield 45, 3) := by decide +kernel
theorem dX6_keeps_46 : decode cX6_keeps 46 = .ok (.iload_n 1, 1) := by decide +kernel
theorem dX6_keeps_47 : decode cX6_keeps 47 = .ok (.iload_n 2, 1) := by decide +kernel
theorem dX6_keeps_48 : decode cX6_keeps 48 = .ok (.iastore, 1) := by decide +kernel
theorem dX6_keeps_49 : decode cX6_keeps 49 = .ok (.return_, 1) := by decide +kernel
theorem dX6_stands_0 : decode cX6_stands 0 = .ok (.bipush 18, 2) := by decide +kernel
theorem dX6_stands_2 : decode cX6_stands 2 = .ok (.iload_n 1, 1) := by decide +kernel
theorem dX6_stands_3 : decode cX6_stands 3 = .ok (.imul, 1) := by decide +kernel
theorem dX6_stands_4 : decode cX6_stands 4 = .ok (.iconst 2, 1) := by decide +kernel
theorem dX6_stands_5 : decode cX6_stands 5 = .ok (.iload_n 2, 1) := by decide +kernel
theorem dX6_stands_6 : decode cX6_stands 6 = .ok (.imul, 1) := by decide +kernel
theorem dX6_stands_7 : decode cX6_stands 7 = .ok (.iadd, 1) := by decide +kernel
theorem dX6_stands_8 : decode cX6_stands 8 = .ok (.iload_n 3, 1) := by decide +kernel
theorem dX6_stands_9 : decode cX6_stands 9 = .ok (.iadd, 1) := by decide +kernel
theorem dX6_stands_10 : decode cX6_stands 10 = .ok (.ireturn, 1) := by decide +kernel
set_option maxRecDepth 20000 in
theorem ggX6_orders_X6_stands : GoodIn wsX6_orders wsX6_stands := goodIn_r _ [11] (by decide +kernel) (by decide +kernel)
set_option maxRecDepth 20000 in
theorem gX6_orders_X6_stands : GoodIn wsX6_orders (wsV RX6 88 RX6 yX6_stands wsX6_stands) := goodIn_app (goodIn_of _ (by decide +kernel)) ggX6_orders_X6_stands
set_option maxRecDepth 20000 in
theorem ggX6_orders_X6_goesOn : GoodIn wsX6_orders wsX6_goesOn := goodIn_r _ [15, 1, 6, 4, 16, 17, 18, 10, 19, 20, 21, 22, 23, 24, 25, 26, 27, 28, 29, 30, 31, 32, 33, 34, 35, 36, 37, 38, 39, 40, 41, 42, 43, 44, 7, 8, 9, 11, 45, 46, 47, 48, 3, 5, 49, 50, 51, 52, 53, 54, 55, 56, 57, 58, 59, 60, 61, 62, 63, 64, 65, 66, 67, 68] (by decide +kernel) (by decide +kernel)
set_option maxRecDepth 20000 in
theorem gX6_orders_X6_goesOn : GoodIn wsX6_orders (wsV RX6 92 RX6 yX6_goesOn wsX6_goesOn) := goodIn_app (goodIn_of _ (by decide +kernel)) ggX6_orders_X6_goesOn
theorem dX6_orders_0 : decode cX6_orders 0 = .ok (.iconst 1, 1) := by decide +kernel
theorem dX6_orders_1 : decode cX6_orders 1 = .ok (.aload_n 0, 1) := by decide +kernel
theorem dX6_orders_2 : decode cX6_orders 2 = .ok (.getfield 61, 3) := by decide +kernel
theorem dX6_orders_5 : decode cX6_orders 5 = .ok (.ishl, 1) := by decide +kernel
theorem dX6_orders_6 : decode cX6_orders 6 = .ok (.istore_n 1, 1) := by decide +kernel
theorem dX6_orders_7 : decode cX6_orders 7 = .ok (.aload_n 0, 1) := by decide +kernel
theorem dX6_orders_8 : decode cX6_orders 8 = .ok (.getfield 31, 3) := by decide +kernel
theorem dX6_orders_11 : decode cX6_orders 11 = .ok (.ifCond .eq 7, 3) := by decide +kernel
theorem dX6_orders_14 : decode cX6_orders 14 = .ok (.iconst 2, 1) := by decide +kernel
theorem dX6_orders_15 : decode cX6_orders 15 = .ok (.goto 4, 3) := by decide +kernel
theorem dX6_orders_18 : decode cX6_orders 18 = .ok (.iconst 1, 1) := by decide +kernel
theorem dX6_orders_19 : decode cX6_orders 19 = .ok (.istore_n 2, 1) := by decide +kernel
theorem dX6_orders_20 : decode cX6_orders 20 = .ok (.iconst 0, 1) := by decide +kernel
theorem dX6_orders_21 : decode cX6_orders 21 = .ok (.istore_n 3, 1) := by decide +kernel
theorem dX6_orders_22 : decode cX6_orders 22 = .ok (.iload_n 3, 1) := by decide +kernel
theorem dX6_orders_23 : decode cX6_orders 23 = .ok (.bipush 18, 2) := by decide +kernel
theorem dX6_orders_25 : decode cX6_orders 25 = .ok (.iload_n 1, 1) := by decide +kernel
theorem dX6_orders_26 : decode cX6_orders 26 = .ok (.imul, 1) := by decide +kernel
theorem dX6_orders_27 : decode cX6_orders 27 = .ok (.if_icmp .ge 25, 3) := by decide +kernel
theorem dX6_orders_30 : decode cX6_orders 30 = .ok (.aload_n 0, 1) := by decide +kernel
theorem dX6_orders_31 : decode cX6_orders 31 = .ok (.getfield 42, 3) := by decide +kernel
theorem dX6_orders_34 : decode cX6_orders 34 = .ok (.iload_n 3, 1) := by decide +kernel
theorem dX6_orders_35 : decode cX6_orders 35 = .ok (.ldc 87, 2) := by decide +kernel
theorem dX6_orders_37 : decode cX6_orders 37 = .ok (.iastore, 1) := by decide +kernel
theorem dX6_orders_38 : decode cX6_orders 38 = .ok (.aload_n 0, 1) := by decide +kernel
theorem dX6_orders_39 : decode cX6_orders 39 = .ok (.getfield 45, 3) := by decide +kernel
theorem dX6_orders_42 : decode cX6_orders 42 = .ok (.iload_n 3, 1) := by decide +kernel
theorem dX6_orders_43 : decode cX6_orders 43 = .ok (.ldc 87, 2) := by decide +kernel
theorem dX6_orders_45 : decode cX6_orders 45 = .ok (.iastore, 1) := by decide +kernel
theorem dX6_orders_46 : decode cX6_orders 46 = .ok (.iinc 3 1, 3) := by decide +kernel
theorem dX6_orders_49 : decode cX6_orders 49 = .ok (.goto (-27), 3) := by decide +kernel
theorem dX6_orders_52 : decode cX6_orders 52 = .ok (.iconst 0, 1) := by decide +kernel
theorem dX6_orders_53 : decode cX6_orders 53 = .ok (.istore_n 3, 1) := by decide +kernel
theorem dX6_orders_54 : decode cX6_orders 54 = .ok (.iload_n 3, 1) := by decide +kernel
theorem dX6_orders_55 : decode cX6_orders 55 = .ok (.aload_n 0, 1) := by decide +kernel
theorem dX6_orders_56 : decode cX6_orders 56 = .ok (.getfield 61, 3) := by decide +kernel
theorem dX6_orders_59 : decode cX6_orders 59 = .ok (.if_icmp .ge 48, 3) := by decide +kernel
theorem dX6_orders_62 : decode cX6_orders 62 = .ok (.iconst 0, 1) := by decide +kernel
theorem dX6_orders_63 : decode cX6_orders 63 = .ok (.istore 4, 2) := by decide +kernel
theorem dX6_orders_65 : decode cX6_orders 65 = .ok (.iload 4, 2) := by decide +kernel
theorem dX6_orders_67 : decode cX6_orders 67 = .ok (.iload_n 2, 1) := by decide +kernel
theorem dX6_orders_68 : decode cX6_orders 68 = .ok (.if_icmp .ge 33, 3) := by decide +kernel
theorem dX6_orders_71 : decode cX6_orders 71 = .ok (.aload_n 0, 1) := by decide +kernel
theorem dX6_orders_72 : decode cX6_orders 72 = .ok (.getfield 42, 3) := by decide +kernel
theorem dX6_orders_75 : decode cX6_orders 75 = .ok (.aload_n 0, 1) := by decide +kernel
theorem dX6_orders_76 : decode cX6_orders 76 = .ok (.iconst 1, 1) := by decide +kernel
theorem dX6_orders_77 : decode cX6_orders 77 = .ok (.iload_n 3, 1) := by decide +kernel
theorem dX6_orders_78 : decode cX6_orders 78 = .ok (.ishl, 1) := by decide +kernel
theorem dX6_orders_79 : decode cX6_orders 79 = .ok (.iload_n 3, 1) := by decide +kernel
theorem dX6_orders_80 : decode cX6_orders 80 = .ok (.iload 4, 2) := by decide +kernel
theorem dX6_orders_82 : decode cX6_orders 82 = .ok (.invokevirtual 88, 3) := by decide +kernel
theorem dX6_orders_85 : decode cX6_orders 85 = .ok (.iload 4, 2) := by decide +kernel
theorem dX6_orders_87 : decode cX6_orders 87 = .ok (.aload_n 0, 1) := by decide +kernel
theorem dX6_orders_88 : decode cX6_orders 88 = .ok (.getfield 28, 3) := by decide +kernel
theorem dX6_orders_91 : decode cX6_orders 91 = .ok (.iconst 4, 1) := by decide +kernel
theorem dX6_orders_92 : decode cX6_orders 92 = .ok (.iaload, 1) := by decide +kernel
theorem dX6_orders_93 : decode cX6_orders 93 = .ok (.imul, 1) := by decide +kernel
theorem dX6_orders_94 : decode cX6_orders 94 = .ok (.iastore, 1) := by decide +kernel
theorem dX6_orders_95 : decode cX6_orders 95 = .ok (.iinc 4 1, 3) := by decide +kernel
theorem dX6_orders_98 : decode cX6_orders 98 = .ok (.goto (-33), 3) := by decide +kernel
theorem dX6_orders_101 : decode cX6_orders 101 = .ok (.iinc 3 1, 3) := by decide +kernel
theorem dX6_orders_104 : decode cX6_orders 104 = .ok (.goto (-50), 3) := by decide +kernel
theorem dX6_orders_107 : decode cX6_orders 107 = .ok (.iconst 1, 1) := by decide +kernel
theorem dX6_orders_108 : decode cX6_orders 108 = .ok (.istore_n 3, 1) := by decide +kernel
theorem dX6_orders_109 : decode cX6_orders 109 = .ok (.iload_n 3, 1) := by decide +kernel
theorem dX6_orders_110 : decode cX6_orders 110 = .ok (.iload_n 1, 1) := by decide +kernel
theorem dX6_orders_111 : decode cX6_orders 111 = .ok (.if_icmp .ge 89, 3) := by decide +kernel
theorem dX6_orders_114 : decode cX6_orders 114 = .ok (.iconst 0, 1) := by decide +kernel
theorem dX6_orders_115 : decode cX6_orders 115 = .ok (.istore 4, 2) := by decide +kernel
theorem dX6_orders_117 : decode cX6_orders 117 = .ok (.iload 4, 2) := by decide +kernel
theorem dX6_orders_119 : decode cX6_orders 119 = .ok (.aload_n 0, 1) := by decide +kernel
theorem dX6_orders_120 : decode cX6_orders 120 = .ok (.getfield 61, 3) := by decide +kernel
theorem dX6_orders_123 : decode cX6_orders 123 = .ok (.if_icmp .ge 71, 3) := by decide +kernel
theorem dX6_orders_126 : decode cX6_orders 126 = .ok (.iconst 0, 1) := by decide +kernel
theorem dX6_orders_127 : decode cX6_orders 127 = .ok (.istore 5, 2) := by decide +kernel
theorem dX6_orders_129 : decode cX6_orders 129 = .ok (.iload 5, 2) := by decide +kernel
theorem dX6_orders_131 : decode cX6_orders 131 = .ok (.iload_n 2, 1) := by decide +kernel
theorem dX6_orders_132 : decode cX6_orders 132 = .ok (.if_icmp .ge 56, 3) := by decide +kernel
theorem dX6_orders_135 : decode cX6_orders 135 = .ok (.aload_n 0, 1) := by decide +kernel
theorem dX6_orders_136 : decode cX6_orders 136 = .ok (.iload_n 3, 1) := by decide +kernel
theorem dX6_orders_137 : decode cX6_orders 137 = .ok (.iload 4, 2) := by decide +kernel
theorem dX6_orders_139 : decode cX6_orders 139 = .ok (.iload 5, 2) := by decide +kernel
theorem dX6_orders_141 : decode cX6_orders 141 = .ok (.invokevirtual 88, 3) := by decide +kernel
theorem dX6_orders_144 : decode cX6_orders 144 = .ok (.istore 6, 2) := by decide +kernel
theorem dX6_orders_146 : decode cX6_orders 146 = .ok (.aload_n 0, 1) := by decide +kernel
theorem dX6_orders_147 : decode cX6_orders 147 = .ok (.getfield 42, 3) := by decide +kernel
theorem dX6_orders_150 : decode cX6_orders 150 = .ok (.iload 6, 2) := by decide +kernel
theorem dX6_orders_152 : decode cX6_orders 152 = .ok (.iaload, 1) := by decide +kernel
theorem dX6_orders_153 : decode cX6_orders 153 = .ok (.ldc 87, 2) := by decide +kernel
theorem dX6_orders_155 : decode cX6_orders 155 = .ok (.if_icmp .ge 27, 3) := by decide +kernel
theorem dX6_orders_158 : decode cX6_orders 158 = .ok (.aload_n 0, 1) := by decide +kernel
theorem dX6_orders_159 : decode cX6_orders 159 = .ok (.iload_n 3, 1) := by decide +kernel
theorem dX6_orders_160 : decode cX6_orders 160 = .ok (.iload 4, 2) := by decide +kernel
theorem dX6_orders_162 : decode cX6_orders 162 = .ok (.iload 5, 2) := by decide +kernel
theorem dX6_orders_164 : decode cX6_orders 164 = .ok (.aload_n 0, 1) := by decide +kernel
theorem dX6_orders_165 : decode cX6_orders 165 = .ok (.getfield 42, 3) := by decide +kernel
theorem dX6_orders_168 : decode cX6_orders 168 = .ok (.iload 6, 2) := by decide +kernel
theorem dX6_orders_170 : decode cX6_orders 170 = .ok (.iaload, 1) := by decide +kernel
theorem dX6_orders_171 : decode cX6_orders 171 = .ok (.aload_n 0, 1) := by decide +kernel
theorem dX6_orders_172 : decode cX6_orders 172 = .ok (.getfield 45, 3) := by decide +kernel
theorem dX6_orders_175 : decode cX6_orders 175 = .ok (.iload 6, 2) := by decide +kernel
theorem dX6_orders_177 : decode cX6_orders 177 = .ok (.iaload, 1) := by decide +kernel
theorem dX6_orders_178 : decode cX6_orders 178 = .ok (.iload_n 2, 1) := by decide +kernel
theorem dX6_orders_179 : decode cX6_orders 179 = .ok (.invokevirtual 92, 3) := by decide +kernel
theorem dX6_orders_182 : decode cX6_orders 182 = .ok (.iinc 5 1, 3) := by decide +kernel
theorem dX6_orders_185 : decode cX6_orders 185 = .ok (.goto (-56), 3) := by decide +kernel
theorem dX6_orders_188 : decode cX6_orders 188 = .ok (.iinc 4 1, 3) := by decide +kernel
theorem dX6_orders_191 : decode cX6_orders 191 = .ok (.goto (-74), 3) := by decide +kernel
theorem dX6_orders_194 : decode cX6_orders 194 = .ok (.iinc 3 1, 3) := by decide +kernel
theorem dX6_orders_197 : decode cX6_orders 197 = .ok (.goto (-88), 3) := by decide +kernel
theorem dX6_orders_200 : decode cX6_orders 200 = .ok (.return_, 1) := by decide +kernel
set_option maxRecDepth 20000 in
theorem ggX6_goesOn_X6_mayFollow : GoodIn wsX6_goesOn wsX6_mayFollow := goodIn_r _ [8, 1, 9, 10, 11, 12, 44, 45, 46, 47, 48, 49, 50, 51, 52, 53, 54, 55, 56, 57, 58, 59, 60, 61, 62, 63] (by decide +kernel) (by decide +kernel)
set_option maxRecDepth 20000 in
theorem gX6_goesOn_X6_mayFollow : GoodIn wsX6_goesOn (wsV RX6 96 RX6 yX6_mayFollow wsX6_mayFollow) := goodIn_app (goodIn_of _ (by decide +kernel)) ggX6_goesOn_X6_mayFollow
set_option maxRecDepth 20000 in
theorem ggX6_goesOn_X6_joins : GoodIn wsX6_goesOn wsX6_joins := goodIn_r _ [16, 2, 17, 18, 19, 7, 20, 21, 22, 23, 24, 25, 26, 27, 28, 29, 30, 31, 32, 33, 44, 45, 46, 47, 48, 49, 50, 51, 52, 53, 54, 55, 56, 57, 58, 59, 60, 61, 62, 63] (by decide +kernel) (by decide +kernel)
set_option maxRecDepth 20000 in
theorem gX6_goesOn_X6_joins : GoodIn wsX6_goesOn (wsV RX6 84 RX6 yX6_joins wsX6_joins) := goodIn_app (goodIn_of _ (by decide +kernel)) ggX6_goesOn_X6_joins
set_option maxRecDepth 20000 in
theorem ggX6_goesOn_X6_stands : GoodIn wsX6_goesOn wsX6_stands := goodIn_r _ [37] (by decide +kernel) (by decide +kernel)
set_option maxRecDepth 20000 in
theorem gX6_goesOn_X6_stands : GoodIn wsX6_goesOn (wsV RX6 88 RX6 yX6_stands wsX6_stands) := goodIn_app (goodIn_of _ (by decide +kernel)) ggX6_goesOn_X6_stands
set_option maxRecDepth 20000 in
theorem ggX6_goesOn_X6_keeps : GoodIn wsX6_goesOn wsX6_keeps := goodIn_r _ [41, 42, 43, 44, 45, 46, 47, 48, 49, 50, 51, 52, 53, 54, 55, 56, 57, 58, 59, 60, 61, 62, 63] (by decide +kernel) (by decide +kernel)
set_option maxRecDepth 20000 in
theorem gX6_goesOn_X6_keeps : GoodIn wsX6_goesOn (wsV RX6 99 RX6 yX6_keeps wsX6_keeps) := goodIn_app (goodIn_of _ (by decide +kernel)) ggX6_goesOn_X6_keeps
theorem dX6_goesOn_0 : decode cX6_goesOn 0 = .ok (.iconst 0, 1) := by decide +kernel
theorem dX6_goesOn_1 : decode cX6_goesOn 1 = .ok (.istore 7, 2) := by decide +kernel
theorem dX6_goesOn_3 : decode cX6_goesOn 3 = .ok (.iload 7, 2) := by decide +kernel
theorem dX6_goesOn_5 : decode cX6_goesOn 5 = .ok (.aload_n 0, 1) := by decide +kernel
theorem dX6_goesOn_6 : decode cX6_goesOn 6 = .ok (.getfield 61, 3) := by decide +kernel
theorem dX6_goesOn_9 : decode cX6_goesOn 9 = .ok (.if_icmp .ge 116, 3) := by decide +kernel
theorem dX6_goesOn_12 : decode cX6_goesOn 12 = .ok (.iload_n 1, 1) := by decide +kernel
theorem dX6_goesOn_13 : decode cX6_goesOn 13 = .ok (.iload 7, 2) := by decide +kernel
theorem dX6_goesOn_15 : decode cX6_goesOn 15 = .ok (.ishr, 1) := by decide +kernel
theorem dX6_goesOn_16 : decode cX6_goesOn 16 = .ok (.iconst 1, 1) := by decide +kernel
theorem dX6_goesOn_17 : decode cX6_goesOn 17 = .ok (.iand, 1) := by decide +kernel
theorem dX6_goesOn_18 : decode cX6_goesOn 18 = .ok (.iconst 1, 1) := by decide +kernel
theorem dX6_goesOn_19 : decode cX6_goesOn 19 = .ok (.if_icmp .eq 100, 3) := by decide +kernel
theorem dX6_goesOn_22 : decode cX6_goesOn 22 = .ok (.aload_n 0, 1) := by decide +kernel
theorem dX6_goesOn_23 : decode cX6_goesOn 23 = .ok (.iload_n 1, 1) := by decide +kernel
theorem dX6_goesOn_24 : decode cX6_goesOn 24 = .ok (.iload_n 2, 1) := by decide +kernel
theorem dX6_goesOn_25 : decode cX6_goesOn 25 = .ok (.iload 7, 2) := by decide +kernel
theorem dX6_goesOn_27 : decode cX6_goesOn 27 = .ok (.invokevirtual 96, 3) := by decide +kernel
theorem dX6_goesOn_30 : decode cX6_goesOn 30 = .ok (.ifCond .ne 6, 3) := by decide +kernel
theorem dX6_goesOn_33 : decode cX6_goesOn 33 = .ok (.goto 86, 3) := by decide +kernel
theorem dX6_goesOn_36 : decode cX6_goesOn 36 = .ok (.iconst 0, 1) := by decide +kernel
theorem dX6_goesOn_37 : decode cX6_goesOn 37 = .ok (.istore 8, 2) := by decide +kernel
theorem dX6_goesOn_39 : decode cX6_goesOn 39 = .ok (.iload 8, 2) := by decide +kernel
theorem dX6_goesOn_41 : decode cX6_goesOn 41 = .ok (.iload 6, 2) := by decide +kernel
theorem dX6_goesOn_43 : decode cX6_goesOn 43 = .ok (.if_icmp .ge 76, 3) := by decide +kernel
theorem dX6_goesOn_46 : decode cX6_goesOn 46 = .ok (.aload_n 0, 1) := by decide +kernel
theorem dX6_goesOn_47 : decode cX6_goesOn 47 = .ok (.iload_n 2, 1) := by decide +kernel
theorem dX6_goesOn_48 : decode cX6_goesOn 48 = .ok (.iload_n 3, 1) := by decide +kernel
theorem dX6_goesOn_49 : decode cX6_goesOn 49 = .ok (.iload 7, 2) := by decide +kernel
theorem dX6_goesOn_51 : decode cX6_goesOn 51 = .ok (.iload 8, 2) := by decide +kernel
theorem dX6_goesOn_53 : decode cX6_goesOn 53 = .ok (.invokevirtual 84, 3) := by decide +kernel
theorem dX6_goesOn_56 : decode cX6_goesOn 56 = .ok (.iload 8, 2) := by decide +kernel
theorem dX6_goesOn_58 : decode cX6_goesOn 58 = .ok (.aload_n 0, 1) := by decide +kernel
theorem dX6_goesOn_59 : decode cX6_goesOn 59 = .ok (.getfield 28, 3) := by decide +kernel
theorem dX6_goesOn_62 : decode cX6_goesOn 62 = .ok (.iconst 4, 1) := by decide +kernel
theorem dX6_goesOn_63 : decode cX6_goesOn 63 = .ok (.iaload, 1) := by decide +kernel
theorem dX6_goesOn_64 : decode cX6_goesOn 64 = .ok (.imul, 1) := by decide +kernel
theorem dX6_goesOn_65 : decode cX6_goesOn 65 = .ok (.iadd, 1) := by decide +kernel
theorem dX6_goesOn_66 : decode cX6_goesOn 66 = .ok (.istore 9, 2) := by decide +kernel
theorem dX6_goesOn_68 : decode cX6_goesOn 68 = .ok (.aload_n 0, 1) := by decide +kernel
theorem dX6_goesOn_69 : decode cX6_goesOn 69 = .ok (.iload_n 1, 1) := by decide +kernel
theorem dX6_goesOn_70 : decode cX6_goesOn 70 = .ok (.iconst 1, 1) := by decide +kernel
theorem dX6_goesOn_71 : decode cX6_goesOn 71 = .ok (.iload 7, 2) := by decide +kernel
theorem dX6_goesOn_73 : decode cX6_goesOn 73 = .ok (.ishl, 1) := by decide +kernel
theorem dX6_goesOn_74 : decode cX6_goesOn 74 = .ok (.ior, 1) := by decide +kernel
theorem dX6_goesOn_75 : decode cX6_goesOn 75 = .ok (.iload 7, 2) := by decide +kernel
theorem dX6_goesOn_77 : decode cX6_goesOn 77 = .ok (.iload 8, 2) := by decide +kernel
theorem dX6_goesOn_79 : decode cX6_goesOn 79 = .ok (.invokevirtual 88, 3) := by decide +kernel
theorem dX6_goesOn_82 : decode cX6_goesOn 82 = .ok (.istore 10, 2) := by decide +kernel
theorem dX6_goesOn_84 : decode cX6_goesOn 84 = .ok (.aload_n 0, 1) := by decide +kernel
theorem dX6_goesOn_85 : decode cX6_goesOn 85 = .ok (.iload 10, 2) := by decide +kernel
theorem dX6_goesOn_87 : decode cX6_goesOn 87 = .ok (.iload 4, 2) := by decide +kernel
theorem dX6_goesOn_89 : decode cX6_goesOn 89 = .ok (.iload 9, 2) := by decide +kernel
theorem dX6_goesOn_91 : decode cX6_goesOn 91 = .ok (.iadd, 1) := by decide +kernel
theorem dX6_goesOn_92 : decode cX6_goesOn 92 = .ok (.invokevirtual 99, 3) := by decide +kernel
theorem dX6_goesOn_95 : decode cX6_goesOn 95 = .ok (.iload 5, 2) := by decide +kernel
theorem dX6_goesOn_97 : decode cX6_goesOn 97 = .ok (.ldc 87, 2) := by decide +kernel
theorem dX6_goesOn_99 : decode cX6_goesOn 99 = .ok (.if_icmp .ge 14, 3) := by decide +kernel
theorem dX6_goesOn_102 : decode cX6_goesOn 102 = .ok (.aload_n 0, 1) := by decide +kernel
theorem dX6_goesOn_103 : decode cX6_goesOn 103 = .ok (.iload 10, 2) := by decide +kernel
theorem dX6_goesOn_105 : decode cX6_goesOn 105 = .ok (.iload 5, 2) := by decide +kernel
theorem dX6_goesOn_107 : decode cX6_goesOn 107 = .ok (.iload 9, 2) := by decide +kernel
theorem dX6_goesOn_109 : decode cX6_goesOn 109 = .ok (.iadd, 1) := by decide +kernel
theorem dX6_goesOn_110 : decode cX6_goesOn 110 = .ok (.invokevirtual 99, 3) := by decide +kernel
theorem dX6_goesOn_113 : decode cX6_goesOn 113 = .ok (.iinc 8 1, 3) := by decide +kernel
theorem dX6_goesOn_116 : decode cX6_goesOn 116 = .ok (.goto (-77), 3) := by decide +kernel
theorem dX6_goesOn_119 : decode cX6_goesOn 119 = .ok (.iinc 7 1, 3) := by decide +kernel
theorem dX6_goesOn_122 : decode cX6_goesOn 122 = .ok (.goto (-119), 3) := by decide +kernel
theorem dX6_goesOn_125 : decode cX6_goesOn 125 = .ok (.return_, 1) := by decide +kernel
theorem dX6_looks_0 : decode cX6_looks 0 = .ok (.aload_n 0, 1) := by decide +kernel
theorem dX6_looks_1 : decode cX6_looks 1 = .ok (.iload_n 1, 1) := by decide +kernel
theorem dX6_looks_2 : decode cX6_looks 2 = .ok (.ifCond .ne 7, 3) := by decide +kernel
theorem dX6_looks_5 : decode cX6_looks 5 = .ok (.iconst 0, 1) := by decide +kernel
theorem dX6_looks_6 : decode cX6_looks 6 = .ok (.goto 5, 3) := by decide +kernel
theorem dX6_looks_9 : decode cX6_looks 9 = .ok (.ldc 87, 2) := by decide +kernel
theorem dX6_looks_11 : decode cX6_looks 11 = .ok (.putfield 103, 3) := by decide +kernel
theorem dX6_looks_14 : decode cX6_looks 14 = .ok (.aload_n 0, 1) := by decide +kernel
theorem dX6_looks_15 : decode cX6_looks 15 = .ok (.ldc 87, 2) := by decide +kernel
theorem dX6_looks_17 : decode cX6_looks 17 = .ok (.putfield 106, 3) := by decide +kernel
theorem dX6_looks_20 : decode cX6_looks 20 = .ok (.bipush 18, 2) := by decide +kernel
theorem dX6_looks_22 : decode cX6_looks 22 = .ok (.iload_n 1, 1) := by decide +kernel
theorem dX6_looks_23 : decode cX6_looks 23 = .ok (.imul, 1) := by decide +kernel
theorem dX6_looks_24 : decode cX6_looks 24 = .ok (.istore_n 2, 1) := by decide +kernel
theorem dX6_looks_25 : decode cX6_looks 25 = .ok (.iload_n 2, 1) := by decide +kernel
theorem dX6_looks_26 : decode cX6_looks 26 = .ok (.bipush 18, 2) := by decide +kernel
theorem dX6_looks_28 : decode cX6_looks 28 = .ok (.iload_n 1, 1) := by decide +kernel
theorem dX6_looks_29 : decode cX6_looks 29 = .ok (.imul, 1) := by decide +kernel
theorem dX6_looks_30 : decode cX6_looks 30 = .ok (.bipush 18, 2) := by decide +kernel
theorem dX6_looks_32 : decode cX6_looks 32 = .ok (.iadd, 1) := by decide +kernel
theorem dX6_looks_33 : decode cX6_looks 33 = .ok (.if_icmp .ge 92, 3) := by decide +kernel
theorem dX6_looks_36 : decode cX6_looks 36 = .ok (.iload_n 1, 1) := by decide +kernel
theorem dX6_looks_37 : decode cX6_looks 37 = .ok (.ifCond .le 88, 3) := by decide +kernel
theorem dX6_looks_40 : decode cX6_looks 40 = .ok (.aload_n 0, 1) := by decide +kernel
theorem dX6_looks_41 : decode cX6_looks 41 = .ok (.getfield 42, 3) := by decide +kernel
theorem dX6_looks_44 : decode cX6_looks 44 = .ok (.iload_n 2, 1) := by decide +kernel
theorem dX6_looks_45 : decode cX6_looks 45 = .ok (.iaload, 1) := by decide +kernel
theorem dX6_looks_46 : decode cX6_looks 46 = .ok (.aload_n 0, 1) := by decide +kernel
theorem dX6_looks_47 : decode cX6_looks 47 = .ok (.getfield 103, 3) := by decide +kernel
theorem dX6_looks_50 : decode cX6_looks 50 = .ok (.if_icmp .ge 46, 3) := by decide +kernel
theorem dX6_looks_53 : decode cX6_looks 53 = .ok (.aload_n 0, 1) := by decide +kernel
theorem dX6_looks_54 : decode cX6_looks 54 = .ok (.aload_n 0, 1) := by decide +kernel
theorem dX6_looks_55 : decode cX6_looks 55 = .ok (.getfield 45, 3) := by decide +kernel
theorem dX6_looks_58 : decode cX6_looks 58 = .ok (.iload_n 2, 1) := by decide +kernel
theorem dX6_looks_59 : decode cX6_looks 59 = .ok (.iaload, 1) := by decide +kernel
theorem dX6_looks_60 : decode cX6_looks 60 = .ok (.aload_n 0, 1) := by decide +kernel
theorem dX6_looks_61 : decode cX6_looks 61 = .ok (.getfield 103, 3) := by decide +kernel
theorem dX6_looks_64 : decode cX6_looks 64 = .ok (.if_icmp .ge 12, 3) := by decide +kernel
theorem dX6_looks_67 : decode cX6_looks 67 = .ok (.aload_n 0, 1) := by decide +kernel
theorem dX6_looks_68 : decode cX6_looks 68 = .ok (.getfield 45, 3) := by decide +kernel
theorem dX6_looks_71 : decode cX6_looks 71 = .ok (.iload_n 2, 1) := by decide +kernel
theorem dX6_looks_72 : decode cX6_looks 72 = .ok (.iaload, 1) := by decide +kernel
theorem dX6_looks_73 : decode cX6_looks 73 = .ok (.goto 7, 3) := by decide +kernel
theorem dX6_looks_76 : decode cX6_looks 76 = .ok (.aload_n 0, 1) := by decide +kernel
theorem dX6_looks_77 : decode cX6_looks 77 = .ok (.getfield 103, 3) := by decide +kernel
theorem dX6_looks_80 : decode cX6_looks 80 = .ok (.putfield 106, 3) := by decide +kernel
theorem dX6_looks_83 : decode cX6_looks 83 = .ok (.aload_n 0, 1) := by decide +kernel
theorem dX6_looks_84 : decode cX6_looks 84 = .ok (.aload_n 0, 1) := by decide +kernel
theorem dX6_looks_85 : decode cX6_looks 85 = .ok (.getfield 42, 3) := by decide +kernel
theorem dX6_looks_88 : decode cX6_looks 88 = .ok (.iload_n 2, 1) := by decide +kernel
theorem dX6_looks_89 : decode cX6_looks 89 = .ok (.iaload, 1) := by decide +kernel
theorem dX6_looks_90 : decode cX6_looks 90 = .ok (.putfield 103, 3) := by decide +kernel
theorem dX6_looks_93 : decode cX6_looks 93 = .ok (.goto 26, 3) := by decide +kernel
theorem dX6_looks_96 : decode cX6_looks 96 = .ok (.aload_n 0, 1) := by decide +kernel
theorem dX6_looks_97 : decode cX6_looks 97 = .ok (.getfield 42, 3) := by decide +kernel
theorem dX6_looks_100 : decode cX6_looks 100 = .ok (.iload_n 2, 1) := by decide +kernel
theorem dX6_looks_101 : decode cX6_looks 101 = .ok (.iaload, 1) := by decide +kernel
theorem dX6_looks_102 : decode cX6_looks 102 = .ok (.aload_n 0, 1) := by decide +kernel
theorem dX6_looks_103 : decode cX6_looks 103 = .ok (.getfield 106, 3) := by decide +kernel
theorem dX6_looks_106 : decode cX6_looks 106 = .ok (.if_icmp .ge 13, 3) := by decide +kernel
theorem dX6_looks_109 : decode cX6_looks 109 = .ok (.aload_n 0, 1) := by decide +kernel
theorem dX6_looks_110 : decode cX6_looks 110 = .ok (.aload_n 0, 1) := by decide +kernel
theorem dX6_looks_111 : decode cX6_looks 111 = .ok (.getfield 42, 3) := by decide +kernel
theorem dX6_looks_114 : decode cX6_looks 114 = .ok (.iload_n 2, 1) := by decide +kernel
theorem dX6_looks_115 : decode cX6_looks 115 = .ok (.iaload, 1) := by decide +kernel
theorem dX6_looks_116 : decode cX6_looks 116 = .ok (.putfield 106, 3) := by decide +kernel
theorem dX6_looks_119 : decode cX6_looks 119 = .ok (.iinc 2 1, 3) := by decide +kernel
theorem dX6_looks_122 : decode cX6_looks 122 = .ok (.goto (-97), 3) := by decide +kernel
theorem dX6_looks_125 : decode cX6_looks 125 = .ok (.return_, 1) := by decide +kernel
theorem dX6_told_0 : decode cX6_told 0 = .ok (.iload_n 1, 1) := by decide +kernel
theorem dX6_told_1 : decode cX6_told 1 = .ok (.ldc 87, 2) := by decide +kernel
theorem dX6_told_3 : decode cX6_told 3 = .ok (.if_icmp .ne 7, 3) := by decide +kernel
theorem dX6_told_6 : decode cX6_told 6 = .ok (.iconst (-1), 1) := by decide +kernel
theorem dX6_told_7 : decode cX6_told 7 = .ok (.goto 4, 3) := by decide +kernel
theorem dX6_told_10 : decode cX6_told 10 = .ok (.iload_n 1, 1) := by decide +kernel
theorem dX6_told_11 : decode cX6_told 11 = .ok (.ireturn, 1) := by decide +kernel
theorem dX6_all_0 : decode cX6_all 0 = .ok (.iconst 1, 1) := by decide +kernel
theorem dX6_all_1 : decode cX6_all 1 = .ok (.aload_n 0, 1) := by decide +kernel
theorem dX6_all_2 : decode cX6_all 2 = .ok (.getfield 61, 3) := by decide +kernel
theorem dX6_all_5 : decode cX6_all 5 = .ok (.ishl, 1) := by decide +kernel
theorem dX6_all_6 : decode cX6_all 6 = .ok (.iconst 1, 1) := by decide +kernel
theorem dX6_all_7 : decode cX6_all 7 = .ok (.isub, 1) := by decide +kernel
theorem dX6_all_8 : decode cX6_all 8 = .ok (.ireturn, 1) := by decide +kernel
set_option maxRecDepth 20000 in
theorem ggX6_best_X6_orders : GoodIn wsX6_best wsX6_orders := goodIn_r _ [6, 7, 8, 9, 10, 11, 12, 13, 14, 15, 5, 16, 17, 18, 19, 20, 21, 22, 23, 24, 25, 26, 27, 28, 29, 30, 31, 32, 33, 34, 35, 36, 37, 38, 39, 40, 41, 42, 43, 44, 45, 46, 47, 48, 49, 50, 51, 52, 53, 67, 68, 69, 70, 71, 72, 73, 74, 75, 76, 77, 78, 79, 80, 81, 82, 83, 84, 85, 86] (by decide +kernel) (by decide +kernel)
set_option maxRecDepth 20000 in
theorem gX6_best_X6_orders : GoodIn wsX6_best (wsV RX6 109 RX6 yX6_orders wsX6_orders) := goodIn_app (goodIn_of _ (by decide +kernel)) ggX6_best_X6_orders
set_option maxRecDepth 20000 in
theorem ggX6_best_X6_all : GoodIn wsX6_best wsX6_all := goodIn_r _ [57, 7, 67, 68, 69, 70, 71, 72, 73, 74, 75, 76, 77, 78, 79, 80, 81, 82, 83, 84, 85, 86] (by decide +kernel) (by decide +kernel)
set_option maxRecDepth 20000 in
theorem gX6_best_X6_all : GoodIn wsX6_best (wsV RX6 112 RX6 yX6_all wsX6_all) := goodIn_app (goodIn_of _ (by decide +kernel)) ggX6_best_X6_all
set_option maxRecDepth 20000 in
theorem ggX6_best_X6_looks : GoodIn wsX6_best wsX6_looks := goodIn_r _ [61, 10, 1, 62, 9, 11, 67, 68, 69, 70, 71, 72, 73, 74, 75, 76, 77, 78, 79, 80, 81, 82, 83, 84, 85, 86] (by decide +kernel) (by decide +kernel)
set_option maxRecDepth 20000 in
theorem gX6_best_X6_looks : GoodIn wsX6_best (wsV RX6 116 RX6 yX6_looks wsX6_looks) := goodIn_app (goodIn_of _ (by decide +kernel)) ggX6_best_X6_looks
set_option maxRecDepth 20000 in
theorem ggX6_best_X6_told : GoodIn wsX6_best wsX6_told := goodIn_r _ [66, 10] (by decide +kernel) (by decide +kernel)
set_option maxRecDepth 20000 in
theorem gX6_best_X6_told : GoodIn wsX6_best (wsV RX6 120 RX6 yX6_told wsX6_told) := goodIn_app (goodIn_of _ (by decide +kernel)) ggX6_best_X6_told
theorem dX6_best_0 : decode cX6_best 0 = .ok (.aload_n 0, 1) := by decide +kernel
theorem dX6_best_1 : decode cX6_best 1 = .ok (.invokevirtual 109, 3) := by decide +kernel
theorem dX6_best_4 : decode cX6_best 4 = .ok (.aload_n 0, 1) := by decide +kernel
theorem dX6_best_5 : decode cX6_best 5 = .ok (.aload_n 0, 1) := by decide +kernel
theorem dX6_best_6 : decode cX6_best 6 = .ok (.invokevirtual 112, 3) := by decide +kernel
theorem dX6_best_9 : decode cX6_best 9 = .ok (.invokevirtual 116, 3) := by decide +kernel
theorem dX6_best_12 : decode cX6_best 12 = .ok (.aload_n 0, 1) := by decide +kernel
theorem dX6_best_13 : decode cX6_best 13 = .ok (.aload_n 0, 1) := by decide +kernel
theorem dX6_best_14 : decode cX6_best 14 = .ok (.getfield 103, 3) := by decide +kernel
theorem dX6_best_17 : decode cX6_best 17 = .ok (.invokevirtual 120, 3) := by decide +kernel
theorem dX6_best_20 : decode cX6_best 20 = .ok (.ireturn, 1) := by decide +kernel
set_option maxRecDepth 20000 in
theorem ggX6_reads_X6_best : GoodIn wsX6_reads wsX6_best := goodIn_r _ [11, 12, 13, 14, 15, 10, 16, 1, 17, 2, 3, 18, 5, 19, 20, 21, 22, 23, 24, 25, 26, 27, 28, 29, 30, 31, 32, 33, 34, 35, 36, 37, 38, 39, 40, 41, 42, 43, 44, 45, 46, 47, 48, 49, 50, 51, 52, 53, 54, 55, 56, 57, 58, 59, 60, 61, 62, 63, 64, 65, 66, 67, 68, 69, 70, 71, 72, 73, 74, 75, 76, 77, 78, 79, 80, 81, 82, 83, 84, 85, 86, 87, 88, 89, 90, 91, 92] (by decide +kernel) (by decide +kernel)
set_option maxRecDepth 20000 in
theorem gX6_reads_X6_best : GoodIn wsX6_reads (wsV RX6 124 RX6 yX6_best wsX6_best) := goodIn_app (goodIn_of _ (by decide +kernel)) ggX6_reads_X6_best
set_option maxRecDepth 20000 in
theorem ggX6_reads_X6_all : GoodIn wsX6_reads wsX6_all := goodIn_r _ [63, 1, 73, 74, 75, 76, 77, 78, 79, 80, 81, 82, 83, 84, 85, 86, 87, 88, 89, 90, 91, 92] (by decide +kernel) (by decide +kernel)
set_option maxRecDepth 20000 in
theorem gX6_reads_X6_all : GoodIn wsX6_reads (wsV RX6 112 RX6 yX6_all wsX6_all) := goodIn_app (goodIn_of _ (by decide +kernel)) ggX6_reads_X6_all
set_option maxRecDepth 20000 in
theorem ggX6_reads_X6_mayFollow : GoodIn wsX6_reads wsX6_mayFollow := goodIn_r _ [30, 1, 31, 32, 33, 34, 73, 74, 75, 76, 77, 78, 79, 80, 81, 82, 83, 84, 85, 86, 87, 88, 89, 90, 91, 92] (by decide +kernel) (by decide +kernel)
set_option maxRecDepth 20000 in
theorem gX6_reads_X6_mayFollow : GoodIn wsX6_reads (wsV RX6 96 RX6 yX6_mayFollow wsX6_mayFollow) := goodIn_app (goodIn_of _ (by decide +kernel)) ggX6_reads_X6_mayFollow
set_option maxRecDepth 20000 in
theorem ggX6_reads_X6_joins : GoodIn wsX6_reads wsX6_joins := goodIn_r _ [38, 5, 39, 40, 41, 10, 42, 43, 44, 45, 46, 47, 48, 49, 50, 51, 52, 53, 54, 55, 73, 74, 75, 76, 77, 78, 79, 80, 81, 82, 83, 84, 85, 86, 87, 88, 89, 90, 91, 92] (by decide +kernel) (by decide +kernel)
set_option maxRecDepth 20000 in
theorem gX6_reads_X6_joins : GoodIn wsX6_reads (wsV RX6 84 RX6 yX6_joins wsX6_joins) := goodIn_app (goodIn_of _ (by decide +kernel)) ggX6_reads_X6_joins
theorem dX6_reads_0 : decode cX6_reads 0 = .ok (.aload_n 0, 1) := by decide +kernel
theorem dX6_reads_1 : decode cX6_reads 1 = .ok (.invokevirtual 124, 3) := by decide +kernel
theorem dX6_reads_4 : decode cX6_reads 4 = .ok (.istore_n 1, 1) := by decide +kernel
theorem dX6_reads_5 : decode cX6_reads 5 = .ok (.aload_n 0, 1) := by decide +kernel
theorem dX6_reads_6 : decode cX6_reads 6 = .ok (.invokevirtual 112, 3) := by decide +kernel
theorem dX6_reads_9 : decode cX6_reads 9 = .ok (.istore_n 2, 1) := by decide +kernel
theorem dX6_reads_10 : decode cX6_reads 10 = .ok (.iconst (-1), 1) := by decide +kernel
theorem dX6_reads_11 : decode cX6_reads 11 = .ok (.istore_n 3, 1) := by decide +kernel
theorem dX6_reads_12 : decode cX6_reads 12 = .ok (.aload_n 0, 1) := by decide +kernel
theorem dX6_reads_13 : decode cX6_reads 13 = .ok (.getfield 61, 3) := by decide +kernel
theorem dX6_reads_16 : decode cX6_reads 16 = .ok (.iconst 1, 1) := by decide +kernel
theorem dX6_reads_17 : decode cX6_reads 17 = .ok (.isub, 1) := by decide +kernel
theorem dX6_reads_18 : decode cX6_reads 18 = .ok (.istore 4, 2) := by decide +kernel
theorem dX6_reads_20 : decode cX6_reads 20 = .ok (.iload 4, 2) := by decide +kernel
theorem dX6_reads_22 : decode cX6_reads 22 = .ok (.ifCond .lt 213, 3) := by decide +kernel
theorem dX6_reads_25 : decode cX6_reads 25 = .ok (.iload_n 1, 1) := by decide +kernel
theorem dX6_reads_26 : decode cX6_reads 26 = .ok (.ifCond .lt 209, 3) := by decide +kernel
theorem dX6_reads_29 : decode cX6_reads 29 = .ok (.iconst (-1), 1) := by decide +kernel
theorem dX6_reads_30 : decode cX6_reads 30 = .ok (.istore 5, 2) := by decide +kernel
theorem dX6_reads_32 : decode cX6_reads 32 = .ok (.iconst 0, 1) := by decide +kernel
theorem dX6_reads_33 : decode cX6_reads 33 = .ok (.istore 6, 2) := by decide +kernel
theorem dX6_reads_35 : decode cX6_reads 35 = .ok (.iload 6, 2) := by decide +kernel
theorem dX6_reads_37 : decode cX6_reads 37 = .ok (.bipush 18, 2) := by decide +kernel
theorem dX6_reads_39 : decode cX6_reads 39 = .ok (.if_icmp .ge 129, 3) := by decide +kernel
theorem dX6_reads_42 : decode cX6_reads 42 = .ok (.iload 5, 2) := by decide +kernel
theorem dX6_reads_44 : decode cX6_reads 44 = .ok (.ifCond .ge 124, 3) := by decide +kernel
theorem dX6_reads_47 : decode cX6_reads 47 = .ok (.iload 6, 2) := by decide +kernel
theorem dX6_reads_49 : decode cX6_reads 49 = .ok (.iconst 2, 1) := by decide +kernel
theorem dX6_reads_50 : decode cX6_reads 50 = .ok (.idiv, 1) := by decide +kernel
theorem dX6_reads_51 : decode cX6_reads 51 = .ok (.istore 7, 2) := by decide +kernel
theorem dX6_reads_53 : decode cX6_reads 53 = .ok (.aload_n 0, 1) := by decide +kernel
theorem dX6_reads_54 : decode cX6_reads 54 = .ok (.getfield 42, 3) := by decide +kernel
theorem dX6_reads_57 : decode cX6_reads 57 = .ok (.bipush 18, 2) := by decide +kernel
theorem dX6_reads_59 : decode cX6_reads 59 = .ok (.iload_n 2, 1) := by decide +kernel
theorem dX6_reads_60 : decode cX6_reads 60 = .ok (.imul, 1) := by decide +kernel
theorem dX6_reads_61 : decode cX6_reads 61 = .ok (.iload 6, 2) := by decide +kernel
theorem dX6_reads_63 : decode cX6_reads 63 = .ok (.iadd, 1) := by decide +kernel
theorem dX6_reads_64 : decode cX6_reads 64 = .ok (.iaload, 1) := by decide +kernel
theorem dX6_reads_65 : decode cX6_reads 65 = .ok (.ldc 87, 2) := by decide +kernel
theorem dX6_reads_67 : decode cX6_reads 67 = .ok (.if_icmp .eq 95, 3) := by decide +kernel
theorem dX6_reads_70 : decode cX6_reads 70 = .ok (.iload_n 3, 1) := by decide +kernel
theorem dX6_reads_71 : decode cX6_reads 71 = .ok (.ifCond .lt 17, 3) := by decide +kernel
theorem dX6_reads_74 : decode cX6_reads 74 = .ok (.aload_n 0, 1) := by decide +kernel
theorem dX6_reads_75 : decode cX6_reads 75 = .ok (.iload_n 2, 1) := by decide +kernel
theorem dX6_reads_76 : decode cX6_reads 76 = .ok (.iload 7, 2) := by decide +kernel
theorem dX6_reads_78 : decode cX6_reads 78 = .ok (.iload_n 3, 1) := by decide +kernel
theorem dX6_reads_79 : decode cX6_reads 79 = .ok (.invokevirtual 96, 3) := by decide +kernel
theorem dX6_reads_82 : decode cX6_reads 82 = .ok (.ifCond .ne 6, 3) := by decide +kernel
theorem dX6_reads_85 : decode cX6_reads 85 = .ok (.goto 77, 3) := by decide +kernel
theorem dX6_reads_88 : decode cX6_reads 88 = .ok (.iload_n 3, 1) := by decide +kernel
theorem dX6_reads_89 : decode cX6_reads 89 = .ok (.ifCond .ge 7, 3) := by decide +kernel
theorem dX6_reads_92 : decode cX6_reads 92 = .ok (.iconst 0, 1) := by decide +kernel
theorem dX6_reads_93 : decode cX6_reads 93 = .ok (.goto 40, 3) := by decide +kernel
theorem dX6_reads_96 : decode cX6_reads 96 = .ok (.aload_n 0, 1) := by decide +kernel
theorem dX6_reads_97 : decode cX6_reads 97 = .ok (.iload 7, 2) := by decide +kernel
theorem dX6_reads_99 : decode cX6_reads 99 = .ok (.iload 6, 2) := by decide +kernel
theorem dX6_reads_101 : decode cX6_reads 101 = .ok (.iconst 2, 1) := by decide +kernel
theorem dX6_reads_102 : decode cX6_reads 102 = .ok (.irem, 1) := by decide +kernel
theorem dX6_reads_103 : decode cX6_reads 103 = .ok (.iload_n 3, 1) := by decide +kernel
theorem dX6_reads_104 : decode cX6_reads 104 = .ok (.aload_n 0, 1) := by decide +kernel
theorem dX6_reads_105 : decode cX6_reads 105 = .ok (.getfield 58, 3) := by decide +kernel
theorem dX6_reads_108 : decode cX6_reads 108 = .ok (.iload 4, 2) := by decide +kernel
theorem dX6_reads_110 : decode cX6_reads 110 = .ok (.iconst 1, 1) := by decide +kernel
theorem dX6_reads_111 : decode cX6_reads 111 = .ok (.iadd, 1) := by decide +kernel
theorem dX6_reads_112 : decode cX6_reads 112 = .ok (.iaload, 1) := by decide +kernel
theorem dX6_reads_113 : decode cX6_reads 113 = .ok (.invokevirtual 84, 3) := by decide +kernel
theorem dX6_reads_116 : decode cX6_reads 116 = .ok (.aload_n 0, 1) := by decide +kernel
theorem dX6_reads_117 : decode cX6_reads 117 = .ok (.getfield 58, 3) := by decide +kernel
theorem dX6_reads_120 : decode cX6_reads 120 = .ok (.iload 4, 2) := by decide +kernel
theorem dX6_reads_122 : decode cX6_reads 122 = .ok (.iconst 1, 1) := by decide +kernel
theorem dX6_reads_123 : decode cX6_reads 123 = .ok (.iadd, 1) := by decide +kernel
theorem dX6_reads_124 : decode cX6_reads 124 = .ok (.iaload, 1) := by decide +kernel
theorem dX6_reads_125 : decode cX6_reads 125 = .ok (.aload_n 0, 1) := by decide +kernel
theorem dX6_reads_126 : decode cX6_reads 126 = .ok (.getfield 28, 3) := by decide +kernel
theorem dX6_reads_129 : decode cX6_reads 129 = .ok (.iconst 4, 1) := by decide +kernel
theorem dX6_reads_130 : decode cX6_reads 130 = .ok (.iaload, 1) := by decide +kernel
theorem dX6_reads_131 : decode cX6_reads 131 = .ok (.imul, 1) := by decide +kernel
theorem dX6_reads_132 : decode cX6_reads 132 = .ok (.iadd, 1) := by decide +kernel
theorem dX6_reads_133 : decode cX6_reads 133 = .ok (.istore 8, 2) := by decide +kernel
theorem dX6_reads_135 : decode cX6_reads 135 = .ok (.aload_n 0, 1) := by decide +kernel
theorem dX6_reads_136 : decode cX6_reads 136 = .ok (.getfield 42, 3) := by decide +kernel
theorem dX6_reads_139 : decode cX6_reads 139 = .ok (.bipush 18, 2) := by decide +kernel
theorem dX6_reads_141 : decode cX6_reads 141 = .ok (.iload_n 2, 1) := by decide +kernel
theorem dX6_reads_142 : decode cX6_reads 142 = .ok (.imul, 1) := by decide +kernel
theorem dX6_reads_143 : decode cX6_reads 143 = .ok (.iload 6, 2) := by decide +kernel
theorem dX6_reads_145 : decode cX6_reads 145 = .ok (.iadd, 1) := by decide +kernel
theorem dX6_reads_146 : decode cX6_reads 146 = .ok (.iaload, 1) := by decide +kernel
theorem dX6_reads_147 : decode cX6_reads 147 = .ok (.iload 8, 2) := by decide +kernel
theorem dX6_reads_149 : decode cX6_reads 149 = .ok (.iadd, 1) := by decide +kernel
theorem dX6_reads_150 : decode cX6_reads 150 = .ok (.iload_n 1, 1) := by decide +kernel
theorem dX6_reads_151 : decode cX6_reads 151 = .ok (.if_icmp .ne 8, 3) := by decide +kernel
theorem dX6_reads_154 : decode cX6_reads 154 = .ok (.iload 6, 2) := by decide +kernel
theorem dX6_reads_156 : decode cX6_reads 156 = .ok (.goto 4, 3) := by decide +kernel
theorem dX6_reads_159 : decode cX6_reads 159 = .ok (.iconst (-1), 1) := by decide +kernel
theorem dX6_reads_160 : decode cX6_reads 160 = .ok (.istore 5, 2) := by decide +kernel
theorem dX6_reads_162 : decode cX6_reads 162 = .ok (.iinc 6 1, 3) := by decide +kernel
theorem dX6_reads_165 : decode cX6_reads 165 = .ok (.goto (-130), 3) := by decide +kernel
theorem dX6_reads_168 : decode cX6_reads 168 = .ok (.iload_n 1, 1) := by decide +kernel
theorem dX6_reads_169 : decode cX6_reads 169 = .ok (.iload_n 3, 1) := by decide +kernel
theorem dX6_reads_170 : decode cX6_reads 170 = .ok (.ifCond .ge 7, 3) := by decide +kernel
theorem dX6_reads_173 : decode cX6_reads 173 = .ok (.iconst 0, 1) := by decide +kernel
theorem dX6_reads_174 : decode cX6_reads 174 = .ok (.goto 17, 3) := by decide +kernel
theorem dX6_reads_177 : decode cX6_reads 177 = .ok (.iload_n 1, 1) := by decide +kernel
theorem dX6_reads_178 : decode cX6_reads 178 = .ok (.aload_n 0, 1) := by decide +kernel
theorem dX6_reads_179 : decode cX6_reads 179 = .ok (.getfield 42, 3) := by decide +kernel
theorem dX6_reads_182 : decode cX6_reads 182 = .ok (.bipush 18, 2) := by decide +kernel
theorem dX6_reads_184 : decode cX6_reads 184 = .ok (.iload_n 2, 1) := by decide +kernel
theorem dX6_reads_185 : decode cX6_reads 185 = .ok (.imul, 1) := by decide +kernel
theorem dX6_reads_186 : decode cX6_reads 186 = .ok (.iload 5, 2) := by decide +kernel
theorem dX6_reads_188 : decode cX6_reads 188 = .ok (.iadd, 1) := by decide +kernel
theorem dX6_reads_189 : decode cX6_reads 189 = .ok (.iaload, 1) := by decide +kernel
theorem dX6_reads_190 : decode cX6_reads 190 = .ok (.isub, 1) := by decide +kernel
theorem dX6_reads_191 : decode cX6_reads 191 = .ok (.isub, 1) := by decide +kernel
theorem dX6_reads_192 : decode cX6_reads 192 = .ok (.istore_n 1, 1) := by decide +kernel
theorem dX6_reads_193 : decode cX6_reads 193 = .ok (.aload_n 0, 1) := by decide +kernel
theorem dX6_reads_194 : decode cX6_reads 194 = .ok (.getfield 55, 3) := by decide +kernel
theorem dX6_reads_197 : decode cX6_reads 197 = .ok (.iload 4, 2) := by decide +kernel
theorem dX6_reads_199 : decode cX6_reads 199 = .ok (.iload 5, 2) := by decide +kernel
theorem dX6_reads_201 : decode cX6_reads 201 = .ok (.iconst 2, 1) := by decide +kernel
theorem dX6_reads_202 : decode cX6_reads 202 = .ok (.idiv, 1) := by decide +kernel
theorem dX6_reads_203 : decode cX6_reads 203 = .ok (.iastore, 1) := by decide +kernel
theorem dX6_reads_204 : decode cX6_reads 204 = .ok (.aload_n 0, 1) := by decide +kernel
theorem dX6_reads_205 : decode cX6_reads 205 = .ok (.getfield 58, 3) := by decide +kernel
theorem dX6_reads_208 : decode cX6_reads 208 = .ok (.iload 4, 2) := by decide +kernel
theorem dX6_reads_210 : decode cX6_reads 210 = .ok (.iload 5, 2) := by decide +kernel
theorem dX6_reads_212 : decode cX6_reads 212 = .ok (.iconst 2, 1) := by decide +kernel
theorem dX6_reads_213 : decode cX6_reads 213 = .ok (.irem, 1) := by decide +kernel
theorem dX6_reads_214 : decode cX6_reads 214 = .ok (.iastore, 1) := by decide +kernel
theorem dX6_reads_215 : decode cX6_reads 215 = .ok (.aload_n 0, 1) := by decide +kernel
theorem dX6_reads_216 : decode cX6_reads 216 = .ok (.getfield 55, 3) := by decide +kernel
theorem dX6_reads_219 : decode cX6_reads 219 = .ok (.iload 4, 2) := by decide +kernel
theorem dX6_reads_221 : decode cX6_reads 221 = .ok (.iaload, 1) := by decide +kernel
theorem dX6_reads_222 : decode cX6_reads 222 = .ok (.istore_n 3, 1) := by decide +kernel
theorem dX6_reads_223 : decode cX6_reads 223 = .ok (.iload_n 2, 1) := by decide +kernel
theorem dX6_reads_224 : decode cX6_reads 224 = .ok (.iconst 1, 1) := by decide +kernel
theorem dX6_reads_225 : decode cX6_reads 225 = .ok (.iload_n 3, 1) := by decide +kernel
theorem dX6_reads_226 : decode cX6_reads 226 = .ok (.ishl, 1) := by decide +kernel
theorem dX6_reads_227 : decode cX6_reads 227 = .ok (.isub, 1) := by decide +kernel
theorem dX6_reads_228 : decode cX6_reads 228 = .ok (.istore_n 2, 1) := by decide +kernel
theorem dX6_reads_229 : decode cX6_reads 229 = .ok (.iinc 4 (-1), 3) := by decide +kernel
theorem dX6_reads_232 : decode cX6_reads 232 = .ok (.goto (-212), 3) := by decide +kernel
theorem dX6_reads_235 : decode cX6_reads 235 = .ok (.iload_n 1, 1) := by decide +kernel
theorem dX6_reads_236 : decode cX6_reads 236 = .ok (.ifCond .lt 7, 3) := by decide +kernel
theorem dX6_reads_239 : decode cX6_reads 239 = .ok (.iconst 1, 1) := by decide +kernel
theorem dX6_reads_240 : decode cX6_reads 240 = .ok (.goto 4, 3) := by decide +kernel
theorem dX6_reads_243 : decode cX6_reads 243 = .ok (.iconst 0, 1) := by decide +kernel
theorem dX6_reads_244 : decode cX6_reads 244 = .ok (.ireturn, 1) := by decide +kernel
set_option maxRecDepth 20000 in
theorem ggX6_at_X6_in : GoodIn wsX6_at wsX6_in := goodIn_r _ [7] (by decide +kernel) (by decide +kernel)
set_option maxRecDepth 20000 in
theorem gX6_at_X6_in : GoodIn wsX6_at (va_wsS RX6 64 yX6_in wsX6_in) := goodIn_app (goodIn_of _ (by decide +kernel)) ggX6_at_X6_in
set_option maxRecDepth 20000 in
theorem ggX6_at_X6_reads : GoodIn wsX6_at wsX6_reads := goodIn_r _ [11, 1, 12, 13, 3, 14, 2, 15, 16, 17, 6, 18, 19, 20, 21, 22, 23, 24, 25, 26, 27, 28, 29, 30, 31, 32, 33, 34, 35, 36, 37, 38, 39, 40, 41, 42, 43, 44, 45, 46, 47, 48, 49, 50, 51, 52, 53, 54, 55, 56, 57, 58, 59, 60, 61, 62, 63, 64, 65, 66, 67, 68, 69, 70, 71, 72, 73, 74, 75, 76, 77, 78, 79, 80, 81, 82, 83, 84, 85, 86, 87, 88, 89, 90, 91, 92, 93, 94, 95, 96, 97, 98, 99] (by decide +kernel) (by decide +kernel)
set_option maxRecDepth 20000 in
theorem gX6_at_X6_reads : GoodIn wsX6_at (wsV RX6 127 RX6 yX6_reads wsX6_reads) := goodIn_app (goodIn_of _ (by decide +kernel)) ggX6_at_X6_reads
set_option maxRecDepth 20000 in
theorem ggX6_at_X6_isMissing : GoodIn wsX6_at wsX6_isMissing := goodIn_r _ [49, 14, 50, 51, 52, 6, 53, 54, 55, 56, 57, 58, 59, 60, 61, 62, 80, 81, 82, 83, 84, 85, 86, 87, 88, 89, 90, 91, 92, 93, 94, 95, 96, 97, 98, 99] (by decide +kernel) (by decide +kernel)
set_option maxRecDepth 20000 in
theorem gX6_at_X6_isMissing : GoodIn wsX6_at (wsV RX6 80 RX6 yX6_isMissing wsX6_isMissing) := goodIn_app (goodIn_of _ (by decide +kernel)) ggX6_at_X6_isMissing
theorem dX6_at_0 : decode cX6_at 0 = .ok (.iload_n 1, 1) := by decide +kernel
theorem dX6_at_1 : decode cX6_at 1 = .ok (.iconst 0, 1) := by decide +kernel
theorem dX6_at_2 : decode cX6_at 2 = .ok (.aload_n 0, 1) := by decide +kernel
theorem dX6_at_3 : decode cX6_at 3 = .ok (.getfield 61, 3) := by decide +kernel
theorem dX6_at_6 : decode cX6_at 6 = .ok (.iconst 1, 1) := by decide +kernel
theorem dX6_at_7 : decode cX6_at 7 = .ok (.isub, 1) := by decide +kernel
theorem dX6_at_8 : decode cX6_at 8 = .ok (.invokestatic 64, 3) := by decide +kernel
theorem dX6_at_11 : decode cX6_at 11 = .ok (.ifCond .eq 19, 3) := by decide +kernel
theorem dX6_at_14 : decode cX6_at 14 = .ok (.iload_n 2, 1) := by decide +kernel
theorem dX6_at_15 : decode cX6_at 15 = .ok (.iconst 0, 1) := by decide +kernel
theorem dX6_at_16 : decode cX6_at 16 = .ok (.iconst 2, 1) := by decide +kernel
theorem dX6_at_17 : decode cX6_at 17 = .ok (.invokestatic 64, 3) := by decide +kernel
theorem dX6_at_20 : decode cX6_at 20 = .ok (.ifCond .eq 10, 3) := by decide +kernel
theorem dX6_at_23 : decode cX6_at 23 = .ok (.aload_n 0, 1) := by decide +kernel
theorem dX6_at_24 : decode cX6_at 24 = .ok (.invokevirtual 127, 3) := by decide +kernel
theorem dX6_at_27 : decode cX6_at 27 = .ok (.ifCond .ne 5, 3) := by decide +kernel
theorem dX6_at_30 : decode cX6_at 30 = .ok (.iconst (-1), 1) := by decide +kernel
theorem dX6_at_31 : decode cX6_at 31 = .ok (.ireturn, 1) := by decide +kernel
theorem dX6_at_32 : decode cX6_at 32 = .ok (.iload_n 2, 1) := by decide +kernel
theorem dX6_at_33 : decode cX6_at 33 = .ok (.ifCond .ne 12, 3) := by decide +kernel
theorem dX6_at_36 : decode cX6_at 36 = .ok (.aload_n 0, 1) := by decide +kernel
theorem dX6_at_37 : decode cX6_at 37 = .ok (.getfield 55, 3) := by decide +kernel
theorem dX6_at_40 : decode cX6_at 40 = .ok (.iload_n 1, 1) := by decide +kernel
theorem dX6_at_41 : decode cX6_at 41 = .ok (.iaload, 1) := by decide +kernel
theorem dX6_at_42 : decode cX6_at 42 = .ok (.goto 61, 3) := by decide +kernel
theorem dX6_at_45 : decode cX6_at 45 = .ok (.iload_n 2, 1) := by decide +kernel
theorem dX6_at_46 : decode cX6_at 46 = .ok (.iconst 1, 1) := by decide +kernel
theorem dX6_at_47 : decode cX6_at 47 = .ok (.if_icmp .ne 12, 3) := by decide +kernel
theorem dX6_at_50 : decode cX6_at 50 = .ok (.aload_n 0, 1) := by decide +kernel
theorem dX6_at_51 : decode cX6_at 51 = .ok (.getfield 58, 3) := by decide +kernel
theorem dX6_at_54 : decode cX6_at 54 = .ok (.iload_n 1, 1) := by decide +kernel
theorem dX6_at_55 : decode cX6_at 55 = .ok (.iaload, 1) := by decide +kernel
theorem dX6_at_56 : decode cX6_at 56 = .ok (.goto 47, 3) := by decide +kernel
theorem dX6_at_59 : decode cX6_at 59 = .ok (.iload_n 1, 1) := by decide +kernel
theorem dX6_at_60 : decode cX6_at 60 = .ok (.ifCond .le 42, 3) := by decide +kernel
theorem dX6_at_63 : decode cX6_at 63 = .ok (.aload_n 0, 1) := by decide +kernel
theorem dX6_at_64 : decode cX6_at 64 = .ok (.aload_n 0, 1) := by decide +kernel
theorem dX6_at_65 : decode cX6_at 65 = .ok (.getfield 55, 3) := by decide +kernel
theorem dX6_at_68 : decode cX6_at 68 = .ok (.iload_n 1, 1) := by decide +kernel
theorem dX6_at_69 : decode cX6_at 69 = .ok (.iconst 1, 1) := by decide +kernel
theorem dX6_at_70 : decode cX6_at 70 = .ok (.isub, 1) := by decide +kernel
theorem dX6_at_71 : decode cX6_at 71 = .ok (.iaload, 1) := by decide +kernel
theorem dX6_at_72 : decode cX6_at 72 = .ok (.aload_n 0, 1) := by decide +kernel
theorem dX6_at_73 : decode cX6_at 73 = .ok (.getfield 58, 3) := by decide +kernel
theorem dX6_at_76 : decode cX6_at 76 = .ok (.iload_n 1, 1) := by decide +kernel
theorem dX6_at_77 : decode cX6_at 77 = .ok (.iconst 1, 1) := by decide +kernel
theorem dX6_at_78 : decode cX6_at 78 = .ok (.isub, 1) := by decide +kernel
theorem dX6_at_79 : decode cX6_at 79 = .ok (.iaload, 1) := by decide +kernel
theorem dX6_at_80 : decode cX6_at 80 = .ok (.aload_n 0, 1) := by decide +kernel
theorem dX6_at_81 : decode cX6_at 81 = .ok (.getfield 55, 3) := by decide +kernel
theorem dX6_at_84 : decode cX6_at 84 = .ok (.iload_n 1, 1) := by decide +kernel
theorem dX6_at_85 : decode cX6_at 85 = .ok (.iaload, 1) := by decide +kernel
theorem dX6_at_86 : decode cX6_at 86 = .ok (.aload_n 0, 1) := by decide +kernel
theorem dX6_at_87 : decode cX6_at 87 = .ok (.getfield 58, 3) := by decide +kernel
theorem dX6_at_90 : decode cX6_at 90 = .ok (.iload_n 1, 1) := by decide +kernel
theorem dX6_at_91 : decode cX6_at 91 = .ok (.iaload, 1) := by decide +kernel
theorem dX6_at_92 : decode cX6_at 92 = .ok (.invokevirtual 80, 3) := by decide +kernel
theorem dX6_at_95 : decode cX6_at 95 = .ok (.ifCond .eq 7, 3) := by decide +kernel
theorem dX6_at_98 : decode cX6_at 98 = .ok (.iconst 1, 1) := by decide +kernel
theorem dX6_at_99 : decode cX6_at 99 = .ok (.goto 4, 3) := by decide +kernel
theorem dX6_at_102 : decode cX6_at 102 = .ok (.iconst 0, 1) := by decide +kernel
theorem dX6_at_103 : decode cX6_at 103 = .ok (.ireturn, 1) := by decide +kernel
set_option maxRecDepth 20000 in
theorem ggX6_next_X6_orders : GoodIn wsX6_next wsX6_orders := goodIn_r _ [6, 7, 8, 9, 10, 11, 12, 13, 14, 15, 5, 16, 17, 18, 19, 20, 21, 22, 23, 24, 25, 26, 27, 28, 29, 30, 31, 32, 33, 34, 35, 36, 37, 38, 39, 40, 41, 42, 43, 44, 45, 46, 47, 48, 49, 50, 51, 52, 53, 67, 68, 69, 70, 71, 72, 73, 74, 75, 76, 77, 78, 79, 80, 81, 82, 83, 84, 85, 86] (by decide +kernel) (by decide +kernel)
set_option maxRecDepth 20000 in
theorem gX6_next_X6_orders : GoodIn wsX6_next (wsV RX6 109 RX6 yX6_orders wsX6_orders) := goodIn_app (goodIn_of _ (by decide +kernel)) ggX6_next_X6_orders
set_option maxRecDepth 20000 in
theorem ggX6_next_X6_all : GoodIn wsX6_next wsX6_all := goodIn_r _ [57, 7, 67, 68, 69, 70, 71, 72, 73, 74, 75, 76, 77, 78, 79, 80, 81, 82, 83, 84, 85, 86] (by decide +kernel) (by decide +kernel)
set_option maxRecDepth 20000 in
theorem gX6_next_X6_all : GoodIn wsX6_next (wsV RX6 112 RX6 yX6_all wsX6_all) := goodIn_app (goodIn_of _ (by decide +kernel)) ggX6_next_X6_all
set_option maxRecDepth 20000 in
theorem ggX6_next_X6_looks : GoodIn wsX6_next wsX6_looks := goodIn_r _ [61, 10, 62, 1, 9, 11, 67, 68, 69, 70, 71, 72, 73, 74, 75, 76, 77, 78, 79, 80, 81, 82, 83, 84, 85, 86] (by decide +kernel) (by decide +kernel)
set_option maxRecDepth 20000 in
theorem gX6_next_X6_looks : GoodIn wsX6_next (wsV RX6 116 RX6 yX6_looks wsX6_looks) := goodIn_app (goodIn_of _ (by decide +kernel)) ggX6_next_X6_looks
set_option maxRecDepth 20000 in
theorem ggX6_next_X6_told : GoodIn wsX6_next wsX6_told := goodIn_r _ [66, 10] (by decide +kernel) (by decide +kernel)
set_option maxRecDepth 20000 in
theorem gX6_next_X6_told : GoodIn wsX6_next (wsV RX6 120 RX6 yX6_told wsX6_told) := goodIn_app (goodIn_of _ (by decide +kernel)) ggX6_next_X6_told
theorem dX6_next_0 : decode cX6_next 0 = .ok (.aload_n 0, 1) := by decide +kernel
theorem dX6_next_1 : decode cX6_next 1 = .ok (.invokevirtual 109, 3) := by decide +kernel
theorem dX6_next_4 : decode cX6_next 4 = .ok (.aload_n 0, 1) := by decide +kernel
theorem dX6_next_5 : decode cX6_next 5 = .ok (.aload_n 0, 1) := by decide +kernel
theorem dX6_next_6 : decode cX6_next 6 = .ok (.invokevirtual 112, 3) := by decide +kernel
theorem dX6_next_9 : decode cX6_next 9 = .ok (.invokevirtual 116, 3) := by decide +kernel
theorem dX6_next_12 : decode cX6_next 12 = .ok (.aload_n 0, 1) := by decide +kernel
theorem dX6_next_13 : decode cX6_next 13 = .ok (.aload_n 0, 1) := by decide +kernel
theorem dX6_next_14 : decode cX6_next 14 = .ok (.getfield 106, 3) := by decide +kernel
theorem dX6_next_17 : decode cX6_next 17 = .ok (.invokevirtual 120, 3) := by decide +kernel
theorem dX6_next_20 : decode cX6_next 20 = .ok (.ireturn, 1) := by decide +kernel
set_option maxRecDepth 20000 in
theorem ggX6_sure_X6_isLeaf : GoodIn wsX6_sure wsX6_isLeaf := goodIn_r _ [7, 8, 9, 10, 6, 11, 78, 79, 80, 81, 82, 83, 84, 85, 86, 87, 88, 89, 90, 91, 92, 93, 94, 95, 96, 97] (by decide +kernel) (by decide +kernel)
set_option maxRecDepth 20000 in
theorem gX6_sure_X6_isLeaf : GoodIn wsX6_sure (wsV RX6 68 RX6 yX6_isLeaf wsX6_isLeaf) := goodIn_app (goodIn_of _ (by decide +kernel)) ggX6_sure_X6_isLeaf
set_option maxRecDepth 20000 in
theorem ggX6_sure_X6_in : GoodIn wsX6_sure wsX6_in := goodIn_r _ [11] (by decide +kernel) (by decide +kernel)
set_option maxRecDepth 20000 in
theorem gX6_sure_X6_in : GoodIn wsX6_sure (va_wsS RX6 64 yX6_in wsX6_in) := goodIn_app (goodIn_of _ (by decide +kernel)) ggX6_sure_X6_in
set_option maxRecDepth 20000 in
theorem ggX6_sure_X6_best : GoodIn wsX6_sure wsX6_best := goodIn_r _ [15, 16, 17, 18, 19, 6, 20, 8, 21, 22, 23, 24, 25, 26, 27, 28, 29, 30, 31, 32, 33, 34, 35, 36, 37, 38, 39, 1, 2, 40, 41, 42, 43, 44, 45, 46, 47, 48, 49, 50, 51, 52, 53, 54, 55, 56, 57, 58, 59, 60, 61, 62, 63, 64, 65, 66, 67, 68, 69, 70, 71, 72, 73, 74, 75, 76, 77, 78, 79, 80, 81, 82, 83, 84, 85, 86, 87, 88, 89, 90, 91, 92, 93, 94, 95, 96, 97] (by decide +kernel) (by decide +kernel)
set_option maxRecDepth 20000 in
theorem gX6_sure_X6_best : GoodIn wsX6_sure (wsV RX6 124 RX6 yX6_best wsX6_best) := goodIn_app (goodIn_of _ (by decide +kernel)) ggX6_sure_X6_best
theorem dX6_sure_0 : decode cX6_sure 0 = .ok (.aload_n 0, 1) := by decide +kernel
theorem dX6_sure_1 : decode cX6_sure 1 = .ok (.iload_n 1, 1) := by decide +kernel
theorem dX6_sure_2 : decode cX6_sure 2 = .ok (.invokevirtual 68, 3) := by decide +kernel
theorem dX6_sure_5 : decode cX6_sure 5 = .ok (.ifCond .eq 27, 3) := by decide +kernel
theorem dX6_sure_8 : decode cX6_sure 8 = .ok (.aload_n 0, 1) := by decide +kernel
theorem dX6_sure_9 : decode cX6_sure 9 = .ok (.iload_n 2, 1) := by decide +kernel
theorem dX6_sure_10 : decode cX6_sure 10 = .ok (.invokevirtual 68, 3) := by decide +kernel
theorem dX6_sure_13 : decode cX6_sure 13 = .ok (.ifCond .eq 19, 3) := by decide +kernel
theorem dX6_sure_16 : decode cX6_sure 16 = .ok (.iload_n 1, 1) := by decide +kernel
theorem dX6_sure_17 : decode cX6_sure 17 = .ok (.iload_n 2, 1) := by decide +kernel
theorem dX6_sure_18 : decode cX6_sure 18 = .ok (.if_icmp .eq 14, 3) := by decide +kernel
theorem dX6_sure_21 : decode cX6_sure 21 = .ok (.iload_n 3, 1) := by decide +kernel
theorem dX6_sure_22 : decode cX6_sure 22 = .ok (.iconst 0, 1) := by decide +kernel
theorem dX6_sure_23 : decode cX6_sure 23 = .ok (.sipush 1000, 3) := by decide +kernel
theorem dX6_sure_26 : decode cX6_sure 26 = .ok (.invokestatic 64, 3) := by decide +kernel
theorem dX6_sure_29 : decode cX6_sure 29 = .ok (.ifCond .ne 5, 3) := by decide +kernel
theorem dX6_sure_32 : decode cX6_sure 32 = .ok (.iconst (-1), 1) := by decide +kernel
theorem dX6_sure_33 : decode cX6_sure 33 = .ok (.ireturn, 1) := by decide +kernel
theorem dX6_sure_34 : decode cX6_sure 34 = .ok (.aload_n 0, 1) := by decide +kernel
theorem dX6_sure_35 : decode cX6_sure 35 = .ok (.invokevirtual 124, 3) := by decide +kernel
theorem dX6_sure_38 : decode cX6_sure 38 = .ok (.istore 4, 2) := by decide +kernel
theorem dX6_sure_40 : decode cX6_sure 40 = .ok (.iload 4, 2) := by decide +kernel
theorem dX6_sure_42 : decode cX6_sure 42 = .ok (.ifCond .ge 5, 3) := by decide +kernel
theorem dX6_sure_45 : decode cX6_sure 45 = .ok (.iconst (-1), 1) := by decide +kernel
theorem dX6_sure_46 : decode cX6_sure 46 = .ok (.ireturn, 1) := by decide +kernel
theorem dX6_sure_47 : decode cX6_sure 47 = .ok (.aload_n 0, 1) := by decide +kernel
theorem dX6_sure_48 : decode cX6_sure 48 = .ok (.iload_n 1, 1) := by decide +kernel
theorem dX6_sure_49 : decode cX6_sure 49 = .ok (.putfield 48, 3) := by decide +kernel
theorem dX6_sure_52 : decode cX6_sure 52 = .ok (.aload_n 0, 1) := by decide +kernel
theorem dX6_sure_53 : decode cX6_sure 53 = .ok (.iload_n 2, 1) := by decide +kernel
theorem dX6_sure_54 : decode cX6_sure 54 = .ok (.putfield 52, 3) := by decide +kernel
theorem dX6_sure_57 : decode cX6_sure 57 = .ok (.aload_n 0, 1) := by decide +kernel
theorem dX6_sure_58 : decode cX6_sure 58 = .ok (.invokevirtual 124, 3) := by decide +kernel
theorem dX6_sure_61 : decode cX6_sure 61 = .ok (.istore 5, 2) := by decide +kernel
theorem dX6_sure_63 : decode cX6_sure 63 = .ok (.aload_n 0, 1) := by decide +kernel
theorem dX6_sure_64 : decode cX6_sure 64 = .ok (.iconst (-1), 1) := by decide +kernel
theorem dX6_sure_65 : decode cX6_sure 65 = .ok (.putfield 48, 3) := by decide +kernel
theorem dX6_sure_68 : decode cX6_sure 68 = .ok (.aload_n 0, 1) := by decide +kernel
theorem dX6_sure_69 : decode cX6_sure 69 = .ok (.iconst (-1), 1) := by decide +kernel
theorem dX6_sure_70 : decode cX6_sure 70 = .ok (.putfield 52, 3) := by decide +kernel
theorem dX6_sure_73 : decode cX6_sure 73 = .ok (.iload 5, 2) := by decide +kernel
theorem dX6_sure_75 : decode cX6_sure 75 = .ok (.ifCond .lt 12, 3) := by decide +kernel
theorem dX6_sure_78 : decode cX6_sure 78 = .ok (.iload 5, 2) := by decide +kernel
theorem dX6_sure_80 : decode cX6_sure 80 = .ok (.iload 4, 2) := by decide +kernel
theorem dX6_sure_82 : decode cX6_sure 82 = .ok (.iload_n 3, 1) := by decide +kernel
theorem dX6_sure_83 : decode cX6_sure 83 = .ok (.iadd, 1) := by decide +kernel
theorem dX6_sure_84 : decode cX6_sure 84 = .ok (.if_icmp .le 7, 3) := by decide +kernel
theorem dX6_sure_87 : decode cX6_sure 87 = .ok (.iconst 1, 1) := by decide +kernel
theorem dX6_sure_88 : decode cX6_sure 88 = .ok (.goto 4, 3) := by decide +kernel
theorem dX6_sure_91 : decode cX6_sure 91 = .ok (.iconst 0, 1) := by decide +kernel
theorem dX6_sure_92 : decode cX6_sure 92 = .ok (.ireturn, 1) := by decide +kernel
set_option maxRecDepth 20000 in
theorem ggX6_parts_X6_all : GoodIn wsX6_parts wsX6_all := goodIn_r _ [8, 9, 17, 18, 19, 20, 21, 22, 23, 24, 25, 26, 27, 28, 29, 30, 31, 32, 33, 34, 35, 36] (by decide +kernel) (by decide +kernel)
set_option maxRecDepth 20000 in
theorem gX6_parts_X6_all : GoodIn wsX6_parts (wsV RX6 112 RX6 yX6_all wsX6_all) := goodIn_app (goodIn_of _ (by decide +kernel)) ggX6_parts_X6_all
set_option maxRecDepth 20000 in
theorem ggX6_parts_X6_looks : GoodIn wsX6_parts wsX6_looks := goodIn_r _ [13, 1, 2, 14, 15, 16, 17, 18, 19, 20, 21, 22, 23, 24, 25, 26, 27, 28, 29, 30, 31, 32, 33, 34, 35, 36] (by decide +kernel) (by decide +kernel)
set_option maxRecDepth 20000 in
theorem gX6_parts_X6_looks : GoodIn wsX6_parts (wsV RX6 116 RX6 yX6_looks wsX6_looks) := goodIn_app (goodIn_of _ (by decide +kernel)) ggX6_parts_X6_looks
theorem dX6_parts_0 : decode cX6_parts 0 = .ok (.ldc 87, 2) := by decide +kernel
theorem dX6_parts_2 : decode cX6_parts 2 = .ok (.istore_n 3, 1) := by decide +kernel
theorem dX6_parts_3 : decode cX6_parts 3 = .ok (.iconst 2, 1) := by decide +kernel
theorem dX6_parts_4 : decode cX6_parts 4 = .ok (.istore 4, 2) := by decide +kernel
theorem dX6_parts_6 : decode cX6_parts 6 = .ok (.iload 4, 2) := by decide +kernel
theorem dX6_parts_8 : decode cX6_parts 8 = .ok (.aload_n 0, 1) := by decide +kernel
theorem dX6_parts_9 : decode cX6_parts 9 = .ok (.invokevirtual 112, 3) := by decide +kernel
theorem dX6_parts_12 : decode cX6_parts 12 = .ok (.if_icmp .gt 108, 3) := by decide +kernel
theorem dX6_parts_15 : decode cX6_parts 15 = .ok (.iload_n 1, 1) := by decide +kernel
theorem dX6_parts_16 : decode cX6_parts 16 = .ok (.ifCond .lt 34, 3) := by decide +kernel
theorem dX6_parts_19 : decode cX6_parts 19 = .ok (.iload 4, 2) := by decide +kernel
theorem dX6_parts_21 : decode cX6_parts 21 = .ok (.iload_n 1, 1) := by decide +kernel
theorem dX6_parts_22 : decode cX6_parts 22 = .ok (.ishr, 1) := by decide +kernel
theorem dX6_parts_23 : decode cX6_parts 23 = .ok (.iconst 1, 1) := by decide +kernel
theorem dX6_parts_24 : decode cX6_parts 24 = .ok (.iand, 1) := by decide +kernel
theorem dX6_parts_25 : decode cX6_parts 25 = .ok (.iconst 1, 1) := by decide +kernel
theorem dX6_parts_26 : decode cX6_parts 26 = .ok (.if_icmp .ne 7, 3) := by decide +kernel
theorem dX6_parts_29 : decode cX6_parts 29 = .ok (.iconst 1, 1) := by decide +kernel
theorem dX6_parts_30 : decode cX6_parts 30 = .ok (.goto 4, 3) := by decide +kernel
theorem dX6_parts_33 : decode cX6_parts 33 = .ok (.iconst 0, 1) := by decide +kernel
theorem dX6_parts_34 : decode cX6_parts 34 = .ok (.iload_n 2, 1) := by decide +kernel
theorem dX6_parts_35 : decode cX6_parts 35 = .ok (.iconst 2, 1) := by decide +kernel
theorem dX6_parts_36 : decode cX6_parts 36 = .ok (.if_icmp .ne 7, 3) := by decide +kernel
theorem dX6_parts_39 : decode cX6_parts 39 = .ok (.iconst 1, 1) := by decide +kernel
theorem dX6_parts_40 : decode cX6_parts 40 = .ok (.goto 4, 3) := by decide +kernel
theorem dX6_parts_43 : decode cX6_parts 43 = .ok (.iconst 0, 1) := by decide +kernel
theorem dX6_parts_44 : decode cX6_parts 44 = .ok (.if_icmp .eq 6, 3) := by decide +kernel
theorem dX6_parts_47 : decode cX6_parts 47 = .ok (.goto 67, 3) := by decide +kernel
theorem dX6_parts_50 : decode cX6_parts 50 = .ok (.aload_n 0, 1) := by decide +kernel
theorem dX6_parts_51 : decode cX6_parts 51 = .ok (.iload 4, 2) := by decide +kernel
theorem dX6_parts_53 : decode cX6_parts 53 = .ok (.invokevirtual 116, 3) := by decide +kernel
theorem dX6_parts_56 : decode cX6_parts 56 = .ok (.aload_n 0, 1) := by decide +kernel
theorem dX6_parts_57 : decode cX6_parts 57 = .ok (.getfield 103, 3) := by decide +kernel
theorem dX6_parts_60 : decode cX6_parts 60 = .ok (.istore 5, 2) := by decide +kernel
theorem dX6_parts_62 : decode cX6_parts 62 = .ok (.aload_n 0, 1) := by decide +kernel
theorem dX6_parts_63 : decode cX6_parts 63 = .ok (.aload_n 0, 1) := by decide +kernel
theorem dX6_parts_64 : decode cX6_parts 64 = .ok (.invokevirtual 112, 3) := by decide +kernel
theorem dX6_parts_67 : decode cX6_parts 67 = .ok (.iload 4, 2) := by decide +kernel
theorem dX6_parts_69 : decode cX6_parts 69 = .ok (.isub, 1) := by decide +kernel
theorem dX6_parts_70 : decode cX6_parts 70 = .ok (.invokevirtual 116, 3) := by decide +kernel
theorem dX6_parts_73 : decode cX6_parts 73 = .ok (.iload 5, 2) := by decide +kernel
theorem dX6_parts_75 : decode cX6_parts 75 = .ok (.ldc 87, 2) := by decide +kernel
theorem dX6_parts_77 : decode cX6_parts 77 = .ok (.if_icmp .ge 37, 3) := by decide +kernel
theorem dX6_parts_80 : decode cX6_parts 80 = .ok (.aload_n 0, 1) := by decide +kernel
theorem dX6_parts_81 : decode cX6_parts 81 = .ok (.getfield 103, 3) := by decide +kernel
theorem dX6_parts_84 : decode cX6_parts 84 = .ok (.ldc 87, 2) := by decide +kernel
theorem dX6_parts_86 : decode cX6_parts 86 = .ok (.if_icmp .ge 28, 3) := by decide +kernel
theorem dX6_parts_89 : decode cX6_parts 89 = .ok (.iload 5, 2) := by decide +kernel
theorem dX6_parts_91 : decode cX6_parts 91 = .ok (.aload_n 0, 1) := by decide +kernel
theorem dX6_parts_92 : decode cX6_parts 92 = .ok (.getfield 103, 3) := by decide +kernel
theorem dX6_parts_95 : decode cX6_parts 95 = .ok (.iadd, 1) := by decide +kernel
theorem dX6_parts_96 : decode cX6_parts 96 = .ok (.iload_n 3, 1) := by decide +kernel
theorem dX6_parts_97 : decode cX6_parts 97 = .ok (.if_icmp .ge 17, 3) := by decide +kernel
theorem dX6_parts_100 : decode cX6_parts 100 = .ok (.iload 5, 2) := by decide +kernel
theorem dX6_parts_102 : decode cX6_parts 102 = .ok (.aload_n 0, 1) := by decide +kernel
theorem dX6_parts_103 : decode cX6_parts 103 = .ok (.getfield 103, 3) := by decide +kernel
theorem dX6_parts_106 : decode cX6_parts 106 = .ok (.iadd, 1) := by decide +kernel
theorem dX6_parts_107 : decode cX6_parts 107 = .ok (.istore_n 3, 1) := by decide +kernel
theorem dX6_parts_108 : decode cX6_parts 108 = .ok (.aload_n 0, 1) := by decide +kernel
theorem dX6_parts_109 : decode cX6_parts 109 = .ok (.iload 4, 2) := by decide +kernel
theorem dX6_parts_111 : decode cX6_parts 111 = .ok (.putfield 131, 3) := by decide +kernel
theorem dX6_parts_114 : decode cX6_parts 114 = .ok (.iinc 4 2, 3) := by decide +kernel
theorem dX6_parts_117 : decode cX6_parts 117 = .ok (.goto (-111), 3) := by decide +kernel
theorem dX6_parts_120 : decode cX6_parts 120 = .ok (.iload_n 3, 1) := by decide +kernel
theorem dX6_parts_121 : decode cX6_parts 121 = .ok (.ireturn, 1) := by decide +kernel
set_option maxRecDepth 20000 in
theorem ggX6_two_X6_orders : GoodIn wsX6_two wsX6_orders := goodIn_r _ [6, 1, 7, 8, 9, 10, 11, 12, 13, 14, 5, 15, 16, 17, 18, 19, 20, 21, 22, 23, 24, 25, 26, 27, 28, 29, 30, 31, 32, 33, 34, 35, 36, 37, 38, 39, 40, 41, 42, 43, 44, 45, 46, 47, 48, 49, 50, 51, 52, 72, 73, 74, 75, 76, 77, 78, 79, 80, 81, 82, 83, 84, 85, 86, 87, 88, 89, 90, 91] (by decide +kernel) (by decide +kernel)
set_option maxRecDepth 20000 in
theorem gX6_two_X6_orders : GoodIn wsX6_two (wsV RX6 109 RX6 yX6_orders wsX6_orders) := goodIn_app (goodIn_of _ (by decide +kernel)) ggX6_two_X6_orders
set_option maxRecDepth 20000 in
theorem ggX6_two_X6_parts : GoodIn wsX6_two wsX6_parts := goodIn_r _ [56, 9, 57, 58, 59, 60, 61, 5, 62, 1, 63, 64, 65, 66, 67, 8, 10, 72, 73, 74, 75, 76, 77, 78, 79, 80, 81, 82, 83, 84, 85, 86, 87, 88, 89, 90, 91] (by decide +kernel) (by decide +kernel)
set_option maxRecDepth 20000 in
theorem gX6_two_X6_parts : GoodIn wsX6_two (wsV RX6 134 RX6 yX6_parts wsX6_parts) := goodIn_app (goodIn_of _ (by decide +kernel)) ggX6_two_X6_parts
set_option maxRecDepth 20000 in
theorem ggX6_two_X6_told : GoodIn wsX6_two wsX6_told := goodIn_r _ [71, 9] (by decide +kernel) (by decide +kernel)
set_option maxRecDepth 20000 in
theorem gX6_two_X6_told : GoodIn wsX6_two (wsV RX6 120 RX6 yX6_told wsX6_told) := goodIn_app (goodIn_of _ (by decide +kernel)) ggX6_two_X6_told
theorem dX6_two_0 : decode cX6_two 0 = .ok (.aload_n 0, 1) := by decide +kernel
theorem dX6_two_1 : decode cX6_two 1 = .ok (.getfield 61, 3) := by decide +kernel
theorem dX6_two_4 : decode cX6_two 4 = .ok (.iconst 2, 1) := by decide +kernel
theorem dX6_two_5 : decode cX6_two 5 = .ok (.if_icmp .ge 5, 3) := by decide +kernel
theorem dX6_two_8 : decode cX6_two 8 = .ok (.iconst (-1), 1) := by decide +kernel
theorem dX6_two_9 : decode cX6_two 9 = .ok (.ireturn, 1) := by decide +kernel
theorem dX6_two_10 : decode cX6_two 10 = .ok (.aload_n 0, 1) := by decide +kernel
theorem dX6_two_11 : decode cX6_two 11 = .ok (.invokevirtual 109, 3) := by decide +kernel
theorem dX6_two_14 : decode cX6_two 14 = .ok (.aload_n 0, 1) := by decide +kernel
theorem dX6_two_15 : decode cX6_two 15 = .ok (.aload_n 0, 1) := by decide +kernel
theorem dX6_two_16 : decode cX6_two 16 = .ok (.iconst (-1), 1) := by decide +kernel
theorem dX6_two_17 : decode cX6_two 17 = .ok (.iconst 0, 1) := by decide +kernel
theorem dX6_two_18 : decode cX6_two 18 = .ok (.invokevirtual 134, 3) := by decide +kernel
theorem dX6_two_21 : decode cX6_two 21 = .ok (.invokevirtual 120, 3) := by decide +kernel
theorem dX6_two_24 : decode cX6_two 24 = .ok (.ireturn, 1) := by decide +kernel
set_option maxRecDepth 20000 in
theorem ggX6_book_X6_isLeaf : GoodIn wsX6_book wsX6_isLeaf := goodIn_r _ [6, 7, 8, 9, 5, 10, 83, 84, 85, 86, 87, 88, 89, 90, 91, 92, 93, 94, 95, 96, 97, 98, 99, 100, 101, 102] (by decide +kernel) (by decide +kernel)
set_option maxRecDepth 20000 in
theorem gX6_book_X6_isLeaf : GoodIn wsX6_book (wsV RX6 68 RX6 yX6_isLeaf wsX6_isLeaf) := goodIn_app (goodIn_of _ (by decide +kernel)) ggX6_book_X6_isLeaf
set_option maxRecDepth 20000 in
theorem ggX6_book_X6_two : GoodIn wsX6_book wsX6_two := goodIn_r _ [14, 7, 15, 16, 17, 5, 18, 19, 20, 21, 22, 23, 24, 25, 26, 27, 28, 29, 30, 31, 32, 33, 34, 35, 36, 37, 38, 39, 40, 41, 42, 43, 44, 45, 46, 47, 48, 49, 50, 51, 52, 53, 54, 55, 56, 57, 58, 59, 60, 61, 62, 63, 64, 65, 66, 67, 68, 69, 1, 70, 71, 72, 73, 74, 75, 76, 77, 78, 79, 80, 81, 82, 83, 84, 85, 86, 87, 88, 89, 90, 91, 92, 93, 94, 95, 96, 97, 98, 99, 100, 101, 102] (by decide +kernel) (by decide +kernel)
set_option maxRecDepth 20000 in
theorem gX6_book_X6_two : GoodIn wsX6_book (wsV RX6 137 RX6 yX6_two wsX6_two) := goodIn_app (goodIn_of _ (by decide +kernel)) ggX6_book_X6_two
theorem dX6_book_0 : decode cX6_book 0 = .ok (.aload_n 0, 1) := by decide +kernel
theorem dX6_book_1 : decode cX6_book 1 = .ok (.iload_n 1, 1) := by decide +kernel
theorem dX6_book_2 : decode cX6_book 2 = .ok (.invokevirtual 68, 3) := by decide +kernel
theorem dX6_book_5 : decode cX6_book 5 = .ok (.ifCond .eq 10, 3) := by decide +kernel
theorem dX6_book_8 : decode cX6_book 8 = .ok (.aload_n 0, 1) := by decide +kernel
theorem dX6_book_9 : decode cX6_book 9 = .ok (.invokevirtual 137, 3) := by decide +kernel
theorem dX6_book_12 : decode cX6_book 12 = .ok (.ifCond .ge 7, 3) := by decide +kernel
theorem dX6_book_15 : decode cX6_book 15 = .ok (.iconst (-1), 1) := by decide +kernel
theorem dX6_book_16 : decode cX6_book 16 = .ok (.goto 11, 3) := by decide +kernel
theorem dX6_book_19 : decode cX6_book 19 = .ok (.aload_n 0, 1) := by decide +kernel
theorem dX6_book_20 : decode cX6_book 20 = .ok (.getfield 131, 3) := by decide +kernel
theorem dX6_book_23 : decode cX6_book 23 = .ok (.iload_n 1, 1) := by decide +kernel
theorem dX6_book_24 : decode cX6_book 24 = .ok (.ishr, 1) := by decide +kernel
theorem dX6_book_25 : decode cX6_book 25 = .ok (.iconst 1, 1) := by decide +kernel
theorem dX6_book_26 : decode cX6_book 26 = .ok (.iand, 1) := by decide +kernel
theorem dX6_book_27 : decode cX6_book 27 = .ok (.ireturn, 1) := by decide +kernel
set_option maxRecDepth 20000 in
theorem ggX6_doubt_X6_isLeaf : GoodIn wsX6_doubt wsX6_isLeaf := goodIn_r _ [6, 7, 8, 9, 5, 10, 83, 84, 85, 86, 87, 88, 89, 90, 91, 92, 93, 94, 95, 96, 97, 98, 99, 100, 101, 102] (by decide +kernel) (by decide +kernel)
set_option maxRecDepth 20000 in
theorem gX6_doubt_X6_isLeaf : GoodIn wsX6_doubt (wsV RX6 68 RX6 yX6_isLeaf wsX6_isLeaf) := goodIn_app (goodIn_of _ (by decide +kernel)) ggX6_doubt_X6_isLeaf
set_option maxRecDepth 20000 in
theorem ggX6_doubt_X6_in : GoodIn wsX6_doubt wsX6_in := goodIn_r _ [10] (by decide +kernel) (by decide +kernel)
set_option maxRecDepth 20000 in
theorem gX6_doubt_X6_in : GoodIn wsX6_doubt (va_wsS RX6 64 yX6_in wsX6_in) := goodIn_app (goodIn_of _ (by decide +kernel)) ggX6_doubt_X6_in
set_option maxRecDepth 20000 in
theorem ggX6_doubt_X6_two : GoodIn wsX6_doubt wsX6_two := goodIn_r _ [14, 7, 15, 16, 17, 5, 18, 19, 20, 21, 22, 23, 24, 25, 26, 27, 28, 29, 30, 31, 32, 33, 34, 35, 36, 37, 38, 39, 40, 41, 42, 43, 44, 45, 46, 47, 48, 49, 50, 51, 52, 53, 54, 55, 56, 57, 58, 59, 60, 61, 62, 63, 64, 65, 66, 67, 68, 69, 1, 70, 71, 72, 73, 74, 75, 76, 77, 78, 79, 80, 81, 82, 83, 84, 85, 86, 87, 88, 89, 90, 91, 92, 93, 94, 95, 96, 97, 98, 99, 100, 101, 102] (by decide +kernel) (by decide +kernel)
set_option maxRecDepth 20000 in
theorem gX6_doubt_X6_two : GoodIn wsX6_doubt (wsV RX6 137 RX6 yX6_two wsX6_two) := goodIn_app (goodIn_of _ (by decide +kernel)) ggX6_doubt_X6_two
set_option maxRecDepth 20000 in
theorem ggX6_doubt_X6_parts : GoodIn wsX6_doubt wsX6_parts := goodIn_r _ [68, 21, 69, 1, 70, 71, 72, 5, 73, 7, 74, 75, 76, 77, 78, 20, 22, 83, 84, 85, 86, 87, 88, 89, 90, 91, 92, 93, 94, 95, 96, 97, 98, 99, 100, 101, 102] (by decide +kernel) (by decide +kernel)
set_option maxRecDepth 20000 in
theorem gX6_doubt_X6_parts : GoodIn wsX6_doubt (wsV RX6 134 RX6 yX6_parts wsX6_parts) := goodIn_app (goodIn_of _ (by decide +kernel)) ggX6_doubt_X6_parts
theorem dX6_doubt_0 : decode cX6_doubt 0 = .ok (.aload_n 0, 1) := by decide +kernel
theorem dX6_doubt_1 : decode cX6_doubt 1 = .ok (.iload_n 1, 1) := by decide +kernel
theorem dX6_doubt_2 : decode cX6_doubt 2 = .ok (.invokevirtual 68, 3) := by decide +kernel
theorem dX6_doubt_5 : decode cX6_doubt 5 = .ok (.ifCond .eq 18, 3) := by decide +kernel
theorem dX6_doubt_8 : decode cX6_doubt 8 = .ok (.iload_n 1, 1) := by decide +kernel
theorem dX6_doubt_9 : decode cX6_doubt 9 = .ok (.ifCond .eq 14, 3) := by decide +kernel
theorem dX6_doubt_12 : decode cX6_doubt 12 = .ok (.iload_n 2, 1) := by decide +kernel
theorem dX6_doubt_13 : decode cX6_doubt 13 = .ok (.iconst 0, 1) := by decide +kernel
theorem dX6_doubt_14 : decode cX6_doubt 14 = .ok (.sipush 1000, 3) := by decide +kernel
theorem dX6_doubt_17 : decode cX6_doubt 17 = .ok (.invokestatic 64, 3) := by decide +kernel
theorem dX6_doubt_20 : decode cX6_doubt 20 = .ok (.ifCond .ne 5, 3) := by decide +kernel
theorem dX6_doubt_23 : decode cX6_doubt 23 = .ok (.iconst (-1), 1) := by decide +kernel
theorem dX6_doubt_24 : decode cX6_doubt 24 = .ok (.ireturn, 1) := by decide +kernel
theorem dX6_doubt_25 : decode cX6_doubt 25 = .ok (.aload_n 0, 1) := by decide +kernel
theorem dX6_doubt_26 : decode cX6_doubt 26 = .ok (.invokevirtual 137, 3) := by decide +kernel
theorem dX6_doubt_29 : decode cX6_doubt 29 = .ok (.istore_n 3, 1) := by decide +kernel
theorem dX6_doubt_30 : decode cX6_doubt 30 = .ok (.iload_n 3, 1) := by decide +kernel
theorem dX6_doubt_31 : decode cX6_doubt 31 = .ok (.ifCond .ge 5, 3) := by decide +kernel
theorem dX6_doubt_34 : decode cX6_doubt 34 = .ok (.iconst (-1), 1) := by decide +kernel
theorem dX6_doubt_35 : decode cX6_doubt 35 = .ok (.ireturn, 1) := by decide +kernel
theorem dX6_doubt_36 : decode cX6_doubt 36 = .ok (.aload_n 0, 1) := by decide +kernel
theorem dX6_doubt_37 : decode cX6_doubt 37 = .ok (.iload_n 1, 1) := by decide +kernel
theorem dX6_doubt_38 : decode cX6_doubt 38 = .ok (.aload_n 0, 1) := by decide +kernel
theorem dX6_doubt_39 : decode cX6_doubt 39 = .ok (.getfield 131, 3) := by decide +kernel
theorem dX6_doubt_42 : decode cX6_doubt 42 = .ok (.iload_n 1, 1) := by decide +kernel
theorem dX6_doubt_43 : decode cX6_doubt 43 = .ok (.ishr, 1) := by decide +kernel
theorem dX6_doubt_44 : decode cX6_doubt 44 = .ok (.iconst 1, 1) := by decide +kernel
theorem dX6_doubt_45 : decode cX6_doubt 45 = .ok (.iand, 1) := by decide +kernel
theorem dX6_doubt_46 : decode cX6_doubt 46 = .ok (.iconst 1, 1) := by decide +kernel
theorem dX6_doubt_47 : decode cX6_doubt 47 = .ok (.if_icmp .ne 7, 3) := by decide +kernel
theorem dX6_doubt_50 : decode cX6_doubt 50 = .ok (.iconst 1, 1) := by decide +kernel
theorem dX6_doubt_51 : decode cX6_doubt 51 = .ok (.goto 4, 3) := by decide +kernel
theorem dX6_doubt_54 : decode cX6_doubt 54 = .ok (.iconst 2, 1) := by decide +kernel
theorem dX6_doubt_55 : decode cX6_doubt 55 = .ok (.invokevirtual 134, 3) := by decide +kernel
theorem dX6_doubt_58 : decode cX6_doubt 58 = .ok (.istore 4, 2) := by decide +kernel
theorem dX6_doubt_60 : decode cX6_doubt 60 = .ok (.iload 4, 2) := by decide +kernel
theorem dX6_doubt_62 : decode cX6_doubt 62 = .ok (.iload_n 3, 1) := by decide +kernel
theorem dX6_doubt_63 : decode cX6_doubt 63 = .ok (.iload_n 2, 1) := by decide +kernel
theorem dX6_doubt_64 : decode cX6_doubt 64 = .ok (.iadd, 1) := by decide +kernel
theorem dX6_doubt_65 : decode cX6_doubt 65 = .ok (.if_icmp .gt 7, 3) := by decide +kernel
theorem dX6_doubt_68 : decode cX6_doubt 68 = .ok (.iconst 1, 1) := by decide +kernel
theorem dX6_doubt_69 : decode cX6_doubt 69 = .ok (.goto 4, 3) := by decide +kernel
theorem dX6_doubt_72 : decode cX6_doubt 72 = .ok (.iconst 0, 1) := by decide +kernel
theorem dX6_doubt_73 : decode cX6_doubt 73 = .ok (.ireturn, 1) := by decide +kernel
set_option maxRecDepth 20000 in
theorem ggX6_about_X6_in : GoodIn wsX6_about wsX6_in := goodIn_r _ [7] (by decide +kernel) (by decide +kernel)
set_option maxRecDepth 20000 in
theorem gX6_about_X6_in : GoodIn wsX6_about (va_wsS RX6 64 yX6_in wsX6_in) := goodIn_app (goodIn_of _ (by decide +kernel)) ggX6_about_X6_in
theorem dX6_about_0 : decode cX6_about 0 = .ok (.iload_n 1, 1) := by decide +kernel
theorem dX6_about_1 : decode cX6_about 1 = .ok (.ifCond .ne 10, 3) := by decide +kernel
theorem dX6_about_4 : decode cX6_about 4 = .ok (.aload_n 0, 1) := by decide +kernel
theorem dX6_about_5 : decode cX6_about 5 = .ok (.getfield 61, 3) := by decide +kernel
theorem dX6_about_8 : decode cX6_about 8 = .ok (.goto 46, 3) := by decide +kernel
theorem dX6_about_11 : decode cX6_about 11 = .ok (.iload_n 1, 1) := by decide +kernel
theorem dX6_about_12 : decode cX6_about 12 = .ok (.iconst 1, 1) := by decide +kernel
theorem dX6_about_13 : decode cX6_about 13 = .ok (.bipush 6, 2) := by decide +kernel
theorem dX6_about_15 : decode cX6_about 15 = .ok (.invokestatic 64, 3) := by decide +kernel
theorem dX6_about_18 : decode cX6_about 18 = .ok (.ifCond .eq 14, 3) := by decide +kernel
theorem dX6_about_21 : decode cX6_about 21 = .ok (.aload_n 0, 1) := by decide +kernel
theorem dX6_about_22 : decode cX6_about 22 = .ok (.getfield 28, 3) := by decide +kernel
theorem dX6_about_25 : decode cX6_about 25 = .ok (.iload_n 1, 1) := by decide +kernel
theorem dX6_about_26 : decode cX6_about 26 = .ok (.iconst 1, 1) := by decide +kernel
theorem dX6_about_27 : decode cX6_about 27 = .ok (.isub, 1) := by decide +kernel
theorem dX6_about_28 : decode cX6_about 28 = .ok (.iaload, 1) := by decide +kernel
theorem dX6_about_29 : decode cX6_about 29 = .ok (.goto 25, 3) := by decide +kernel
theorem dX6_about_32 : decode cX6_about 32 = .ok (.iload_n 1, 1) := by decide +kernel
theorem dX6_about_33 : decode cX6_about 33 = .ok (.bipush 7, 2) := by decide +kernel
theorem dX6_about_35 : decode cX6_about 35 = .ok (.if_icmp .ne 18, 3) := by decide +kernel
theorem dX6_about_38 : decode cX6_about 38 = .ok (.aload_n 0, 1) := by decide +kernel
theorem dX6_about_39 : decode cX6_about 39 = .ok (.getfield 31, 3) := by decide +kernel
theorem dX6_about_42 : decode cX6_about 42 = .ok (.ifCond .eq 7, 3) := by decide +kernel
theorem dX6_about_45 : decode cX6_about 45 = .ok (.iconst 1, 1) := by decide +kernel
theorem dX6_about_46 : decode cX6_about 46 = .ok (.goto 8, 3) := by decide +kernel
theorem dX6_about_49 : decode cX6_about 49 = .ok (.iconst 0, 1) := by decide +kernel
theorem dX6_about_50 : decode cX6_about 50 = .ok (.goto 4, 3) := by decide +kernel
theorem dX6_about_53 : decode cX6_about 53 = .ok (.iconst (-1), 1) := by decide +kernel
theorem dX6_about_54 : decode cX6_about 54 = .ok (.ireturn, 1) := by decide +kernel
