theorem dX5_init_0 : decode cX5_init 0 = .ok (.aload_n 0, 1) := by decide +kernel
theorem dX5_init_1 : decode cX5_init 1 = .ok (.invokespecial 3, 3) := by decide +kernel
theorem dX5_init_4 : decode cX5_init 4 = .ok (.aload_n 0, 1) := by decide +kernel
theorem dX5_init_5 : decode cX5_init 5 = .ok (.new 9, 3) := by decide +kernel
theorem dX5_init_8 : decode cX5_init 8 = .ok (.dup, 1) := by decide +kernel
theorem dX5_init_9 : decode cX5_init 9 = .ok (.invokespecial 11, 3) := by decide +kernel
theorem dX5_init_12 : decode cX5_init 12 = .ok (.putfield 12, 3) := by decide +kernel
theorem dX5_init_15 : decode cX5_init 15 = .ok (.aload_n 0, 1) := by decide +kernel
theorem dX5_init_16 : decode cX5_init 16 = .ok (.new 16, 3) := by decide +kernel
theorem dX5_init_19 : decode cX5_init 19 = .ok (.dup, 1) := by decide +kernel
theorem dX5_init_20 : decode cX5_init 20 = .ok (.aload_n 0, 1) := by decide +kernel
theorem dX5_init_21 : decode cX5_init 21 = .ok (.getfield 12, 3) := by decide +kernel
theorem dX5_init_24 : decode cX5_init 24 = .ok (.invokespecial 18, 3) := by decide +kernel
theorem dX5_init_27 : decode cX5_init 27 = .ok (.putfield 21, 3) := by decide +kernel
theorem dX5_init_30 : decode cX5_init 30 = .ok (.aload_n 0, 1) := by decide +kernel
theorem dX5_init_31 : decode cX5_init 31 = .ok (.new 25, 3) := by decide +kernel
theorem dX5_init_34 : decode cX5_init 34 = .ok (.dup, 1) := by decide +kernel
theorem dX5_init_35 : decode cX5_init 35 = .ok (.invokespecial 27, 3) := by decide +kernel
theorem dX5_init_38 : decode cX5_init 38 = .ok (.putfield 28, 3) := by decide +kernel
theorem dX5_init_41 : decode cX5_init 41 = .ok (.aload_n 0, 1) := by decide +kernel
theorem dX5_init_42 : decode cX5_init 42 = .ok (.new 32, 3) := by decide +kernel
theorem dX5_init_45 : decode cX5_init 45 = .ok (.dup, 1) := by decide +kernel
theorem dX5_init_46 : decode cX5_init 46 = .ok (.aload_n 0, 1) := by decide +kernel
theorem dX5_init_47 : decode cX5_init 47 = .ok (.getfield 28, 3) := by decide +kernel
theorem dX5_init_50 : decode cX5_init 50 = .ok (.invokespecial 34, 3) := by decide +kernel
theorem dX5_init_53 : decode cX5_init 53 = .ok (.putfield 37, 3) := by decide +kernel
theorem dX5_init_56 : decode cX5_init 56 = .ok (.aload_n 0, 1) := by decide +kernel
theorem dX5_init_57 : decode cX5_init 57 = .ok (.new 41, 3) := by decide +kernel
theorem dX5_init_60 : decode cX5_init 60 = .ok (.dup, 1) := by decide +kernel
theorem dX5_init_61 : decode cX5_init 61 = .ok (.aload_n 0, 1) := by decide +kernel
theorem dX5_init_62 : decode cX5_init 62 = .ok (.getfield 37, 3) := by decide +kernel
theorem dX5_init_65 : decode cX5_init 65 = .ok (.invokespecial 43, 3) := by decide +kernel
theorem dX5_init_68 : decode cX5_init 68 = .ok (.putfield 46, 3) := by decide +kernel
theorem dX5_init_71 : decode cX5_init 71 = .ok (.aload_n 0, 1) := by decide +kernel
theorem dX5_init_72 : decode cX5_init 72 = .ok (.iconst 1, 1) := by decide +kernel
theorem dX5_init_73 : decode cX5_init 73 = .ok (.putfield 50, 3) := by decide +kernel
theorem dX5_init_76 : decode cX5_init 76 = .ok (.aload_n 0, 1) := by decide +kernel
theorem dX5_init_77 : decode cX5_init 77 = .ok (.iconst 1, 1) := by decide +kernel
theorem dX5_init_78 : decode cX5_init 78 = .ok (.putfield 54, 3) := by decide +kernel
theorem dX5_init_81 : decode cX5_init 81 = .ok (.return_, 1) := by decide +kernel
set_option maxRecDepth 20000 in
theorem ggX5_leaf_X5_isMark : GoodIn wsX5_leaf wsX5_isMark := goodIn_r _ [7, 8, 9, 6, 10] (by decide +kernel) (by decide +kernel)
set_option maxRecDepth 20000 in
theorem gX5_leaf_X5_isMark : GoodIn wsX5_leaf (va_wsS RX5 57 yX5_isMark wsX5_isMark) := goodIn_app (goodIn_of _ (by decide +kernel)) ggX5_leaf_X5_isMark
set_option maxRecDepth 20000 in
theorem ggX5_leaf_X1_add : GoodIn wsX5_leaf wsX1_add := goodIn_r _ [15, 16, 17, 18, 19, 27, 28, 29, 30, 31, 32, 33] (by decide +kernel) (by decide +kernel)
set_option maxRecDepth 20000 in
theorem gX5_leaf_X1_add : GoodIn wsX5_leaf (wsV RX5 65 RX1 yX1_add wsX1_add) := goodIn_app (goodIn_of _ (by decide +kernel)) ggX5_leaf_X1_add
theorem dX5_leaf_0 : decode cX5_leaf 0 = .ok (.iload_n 1, 1) := by decide +kernel
theorem dX5_leaf_1 : decode cX5_leaf 1 = .ok (.invokestatic 57, 3) := by decide +kernel
theorem dX5_leaf_4 : decode cX5_leaf 4 = .ok (.ifCond .eq 29, 3) := by decide +kernel
theorem dX5_leaf_7 : decode cX5_leaf 7 = .ok (.iload_n 2, 1) := by decide +kernel
theorem dX5_leaf_8 : decode cX5_leaf 8 = .ok (.invokestatic 57, 3) := by decide +kernel
theorem dX5_leaf_11 : decode cX5_leaf 11 = .ok (.ifCond .eq 22, 3) := by decide +kernel
theorem dX5_leaf_14 : decode cX5_leaf 14 = .ok (.iload_n 3, 1) := by decide +kernel
theorem dX5_leaf_15 : decode cX5_leaf 15 = .ok (.invokestatic 57, 3) := by decide +kernel
theorem dX5_leaf_18 : decode cX5_leaf 18 = .ok (.ifCond .eq 15, 3) := by decide +kernel
theorem dX5_leaf_21 : decode cX5_leaf 21 = .ok (.iload 4, 2) := by decide +kernel
theorem dX5_leaf_23 : decode cX5_leaf 23 = .ok (.invokestatic 57, 3) := by decide +kernel
theorem dX5_leaf_26 : decode cX5_leaf 26 = .ok (.ifCond .eq 7, 3) := by decide +kernel
theorem dX5_leaf_29 : decode cX5_leaf 29 = .ok (.iconst 1, 1) := by decide +kernel
theorem dX5_leaf_30 : decode cX5_leaf 30 = .ok (.goto 4, 3) := by decide +kernel
theorem dX5_leaf_33 : decode cX5_leaf 33 = .ok (.iconst 0, 1) := by decide +kernel
theorem dX5_leaf_34 : decode cX5_leaf 34 = .ok (.istore 5, 2) := by decide +kernel
theorem dX5_leaf_36 : decode cX5_leaf 36 = .ok (.iload 5, 2) := by decide +kernel
theorem dX5_leaf_38 : decode cX5_leaf 38 = .ok (.ifCond .eq 15, 3) := by decide +kernel
theorem dX5_leaf_41 : decode cX5_leaf 41 = .ok (.aload_n 0, 1) := by decide +kernel
theorem dX5_leaf_42 : decode cX5_leaf 42 = .ok (.getfield 12, 3) := by decide +kernel
theorem dX5_leaf_45 : decode cX5_leaf 45 = .ok (.getfield 61, 3) := by decide +kernel
theorem dX5_leaf_48 : decode cX5_leaf 48 = .ok (.bipush 9, 2) := by decide +kernel
theorem dX5_leaf_50 : decode cX5_leaf 50 = .ok (.if_icmp .lt 5, 3) := by decide +kernel
theorem dX5_leaf_53 : decode cX5_leaf 53 = .ok (.iconst (-1), 1) := by decide +kernel
theorem dX5_leaf_54 : decode cX5_leaf 54 = .ok (.ireturn, 1) := by decide +kernel
theorem dX5_leaf_55 : decode cX5_leaf 55 = .ok (.aload_n 0, 1) := by decide +kernel
theorem dX5_leaf_56 : decode cX5_leaf 56 = .ok (.iconst 1, 1) := by decide +kernel
theorem dX5_leaf_57 : decode cX5_leaf 57 = .ok (.putfield 54, 3) := by decide +kernel
theorem dX5_leaf_60 : decode cX5_leaf 60 = .ok (.aload_n 0, 1) := by decide +kernel
theorem dX5_leaf_61 : decode cX5_leaf 61 = .ok (.getfield 12, 3) := by decide +kernel
theorem dX5_leaf_64 : decode cX5_leaf 64 = .ok (.iload_n 1, 1) := by decide +kernel
theorem dX5_leaf_65 : decode cX5_leaf 65 = .ok (.iload_n 2, 1) := by decide +kernel
theorem dX5_leaf_66 : decode cX5_leaf 66 = .ok (.iload_n 3, 1) := by decide +kernel
theorem dX5_leaf_67 : decode cX5_leaf 67 = .ok (.iload 4, 2) := by decide +kernel
theorem dX5_leaf_69 : decode cX5_leaf 69 = .ok (.invokevirtual 65, 3) := by decide +kernel
theorem dX5_leaf_72 : decode cX5_leaf 72 = .ok (.ireturn, 1) := by decide +kernel
set_option maxRecDepth 20000 in
theorem ggX5_catchword_X1_hasSide : GoodIn wsX5_catchword wsX1_hasSide := goodIn_r _ [8, 9, 10, 11, 7, 12, 13, 14, 15, 16, 28, 29, 30, 31, 32, 33, 34] (by decide +kernel) (by decide +kernel)
set_option maxRecDepth 20000 in
theorem gX5_catchword_X1_hasSide : GoodIn wsX5_catchword (wsV RX5 69 RX1 yX1_hasSide wsX1_hasSide) := goodIn_app (goodIn_of _ (by decide +kernel)) ggX5_catchword_X1_hasSide
set_option maxRecDepth 20000 in
theorem ggX5_catchword_X5_isMark : GoodIn wsX5_catchword wsX5_isMark := goodIn_r _ [19, 20, 14, 15, 16] (by decide +kernel) (by decide +kernel)
set_option maxRecDepth 20000 in
theorem gX5_catchword_X5_isMark : GoodIn wsX5_catchword (va_wsS RX5 57 yX5_isMark wsX5_isMark) := goodIn_app (goodIn_of _ (by decide +kernel)) ggX5_catchword_X5_isMark
theorem dX5_catchword_0 : decode cX5_catchword 0 = .ok (.aload_n 0, 1) := by decide +kernel
theorem dX5_catchword_1 : decode cX5_catchword 1 = .ok (.getfield 12, 3) := by decide +kernel
theorem dX5_catchword_4 : decode cX5_catchword 4 = .ok (.iload_n 1, 1) := by decide +kernel
theorem dX5_catchword_5 : decode cX5_catchword 5 = .ok (.iload_n 2, 1) := by decide +kernel
theorem dX5_catchword_6 : decode cX5_catchword 6 = .ok (.invokevirtual 69, 3) := by decide +kernel
theorem dX5_catchword_9 : decode cX5_catchword 9 = .ok (.ifCond .eq 15, 3) := by decide +kernel
theorem dX5_catchword_12 : decode cX5_catchword 12 = .ok (.iload_n 3, 1) := by decide +kernel
theorem dX5_catchword_13 : decode cX5_catchword 13 = .ok (.iconst (-1), 1) := by decide +kernel
theorem dX5_catchword_14 : decode cX5_catchword 14 = .ok (.if_icmp .eq 12, 3) := by decide +kernel
theorem dX5_catchword_17 : decode cX5_catchword 17 = .ok (.iload_n 3, 1) := by decide +kernel
theorem dX5_catchword_18 : decode cX5_catchword 18 = .ok (.invokestatic 57, 3) := by decide +kernel
theorem dX5_catchword_21 : decode cX5_catchword 21 = .ok (.ifCond .ne 5, 3) := by decide +kernel
theorem dX5_catchword_24 : decode cX5_catchword 24 = .ok (.iconst 0, 1) := by decide +kernel
theorem dX5_catchword_25 : decode cX5_catchword 25 = .ok (.ireturn, 1) := by decide +kernel
theorem dX5_catchword_26 : decode cX5_catchword 26 = .ok (.aload_n 0, 1) := by decide +kernel
theorem dX5_catchword_27 : decode cX5_catchword 27 = .ok (.getfield 12, 3) := by decide +kernel
theorem dX5_catchword_30 : decode cX5_catchword 30 = .ok (.getfield 73, 3) := by decide +kernel
theorem dX5_catchword_33 : decode cX5_catchword 33 = .ok (.iconst 2, 1) := by decide +kernel
theorem dX5_catchword_34 : decode cX5_catchword 34 = .ok (.iload_n 1, 1) := by decide +kernel
theorem dX5_catchword_35 : decode cX5_catchword 35 = .ok (.imul, 1) := by decide +kernel
theorem dX5_catchword_36 : decode cX5_catchword 36 = .ok (.iload_n 2, 1) := by decide +kernel
theorem dX5_catchword_37 : decode cX5_catchword 37 = .ok (.iadd, 1) := by decide +kernel
theorem dX5_catchword_38 : decode cX5_catchword 38 = .ok (.iload_n 3, 1) := by decide +kernel
theorem dX5_catchword_39 : decode cX5_catchword 39 = .ok (.iastore, 1) := by decide +kernel
theorem dX5_catchword_40 : decode cX5_catchword 40 = .ok (.aload_n 0, 1) := by decide +kernel
theorem dX5_catchword_41 : decode cX5_catchword 41 = .ok (.iconst 1, 1) := by decide +kernel
theorem dX5_catchword_42 : decode cX5_catchword 42 = .ok (.putfield 54, 3) := by decide +kernel
theorem dX5_catchword_45 : decode cX5_catchword 45 = .ok (.iconst 1, 1) := by decide +kernel
theorem dX5_catchword_46 : decode cX5_catchword 46 = .ok (.ireturn, 1) := by decide +kernel
set_option maxRecDepth 20000 in
theorem ggX5_cut_X1_hasSide : GoodIn wsX5_cut wsX1_hasSide := goodIn_r _ [9, 10, 11, 12, 8, 13, 14, 15, 16, 17, 29, 30, 31, 32, 33, 34, 35] (by decide +kernel) (by decide +kernel)
set_option maxRecDepth 20000 in
theorem gX5_cut_X1_hasSide : GoodIn wsX5_cut (wsV RX5 69 RX1 yX1_hasSide wsX1_hasSide) := goodIn_app (goodIn_of _ (by decide +kernel)) ggX5_cut_X1_hasSide
set_option maxRecDepth 20000 in
theorem ggX5_cut_X5_isMark : GoodIn wsX5_cut wsX5_isMark := goodIn_r _ [20, 21, 15, 16, 17] (by decide +kernel) (by decide +kernel)
set_option maxRecDepth 20000 in
theorem gX5_cut_X5_isMark : GoodIn wsX5_cut (va_wsS RX5 57 yX5_isMark wsX5_isMark) := goodIn_app (goodIn_of _ (by decide +kernel)) ggX5_cut_X5_isMark
theorem dX5_cut_0 : decode cX5_cut 0 = .ok (.aload_n 0, 1) := by decide +kernel
theorem dX5_cut_1 : decode cX5_cut 1 = .ok (.getfield 12, 3) := by decide +kernel
theorem dX5_cut_4 : decode cX5_cut 4 = .ok (.iload_n 1, 1) := by decide +kernel
theorem dX5_cut_5 : decode cX5_cut 5 = .ok (.iload_n 2, 1) := by decide +kernel
theorem dX5_cut_6 : decode cX5_cut 6 = .ok (.invokevirtual 69, 3) := by decide +kernel
theorem dX5_cut_9 : decode cX5_cut 9 = .ok (.ifCond .eq 18, 3) := by decide +kernel
theorem dX5_cut_12 : decode cX5_cut 12 = .ok (.iload_n 3, 1) := by decide +kernel
theorem dX5_cut_13 : decode cX5_cut 13 = .ok (.invokestatic 57, 3) := by decide +kernel
theorem dX5_cut_16 : decode cX5_cut 16 = .ok (.ifCond .eq 11, 3) := by decide +kernel
theorem dX5_cut_19 : decode cX5_cut 19 = .ok (.iload 4, 2) := by decide +kernel
theorem dX5_cut_21 : decode cX5_cut 21 = .ok (.invokestatic 57, 3) := by decide +kernel
theorem dX5_cut_24 : decode cX5_cut 24 = .ok (.ifCond .ne 5, 3) := by decide +kernel
theorem dX5_cut_27 : decode cX5_cut 27 = .ok (.iconst 0, 1) := by decide +kernel
theorem dX5_cut_28 : decode cX5_cut 28 = .ok (.ireturn, 1) := by decide +kernel
theorem dX5_cut_29 : decode cX5_cut 29 = .ok (.aload_n 0, 1) := by decide +kernel
theorem dX5_cut_30 : decode cX5_cut 30 = .ok (.getfield 12, 3) := by decide +kernel
theorem dX5_cut_33 : decode cX5_cut 33 = .ok (.getfield 77, 3) := by decide +kernel
theorem dX5_cut_36 : decode cX5_cut 36 = .ok (.iconst 2, 1) := by decide +kernel
theorem dX5_cut_37 : decode cX5_cut 37 = .ok (.iload_n 1, 1) := by decide +kernel
theorem dX5_cut_38 : decode cX5_cut 38 = .ok (.imul, 1) := by decide +kernel
theorem dX5_cut_39 : decode cX5_cut 39 = .ok (.iload_n 2, 1) := by decide +kernel
theorem dX5_cut_40 : decode cX5_cut 40 = .ok (.iadd, 1) := by decide +kernel
theorem dX5_cut_41 : decode cX5_cut 41 = .ok (.iload_n 3, 1) := by decide +kernel
theorem dX5_cut_42 : decode cX5_cut 42 = .ok (.iastore, 1) := by decide +kernel
theorem dX5_cut_43 : decode cX5_cut 43 = .ok (.aload_n 0, 1) := by decide +kernel
theorem dX5_cut_44 : decode cX5_cut 44 = .ok (.getfield 12, 3) := by decide +kernel
theorem dX5_cut_47 : decode cX5_cut 47 = .ok (.getfield 80, 3) := by decide +kernel
theorem dX5_cut_50 : decode cX5_cut 50 = .ok (.iconst 2, 1) := by decide +kernel
theorem dX5_cut_51 : decode cX5_cut 51 = .ok (.iload_n 1, 1) := by decide +kernel
theorem dX5_cut_52 : decode cX5_cut 52 = .ok (.imul, 1) := by decide +kernel
theorem dX5_cut_53 : decode cX5_cut 53 = .ok (.iload_n 2, 1) := by decide +kernel
theorem dX5_cut_54 : decode cX5_cut 54 = .ok (.iadd, 1) := by decide +kernel
theorem dX5_cut_55 : decode cX5_cut 55 = .ok (.iload 4, 2) := by decide +kernel
theorem dX5_cut_57 : decode cX5_cut 57 = .ok (.iastore, 1) := by decide +kernel
theorem dX5_cut_58 : decode cX5_cut 58 = .ok (.aload_n 0, 1) := by decide +kernel
theorem dX5_cut_59 : decode cX5_cut 59 = .ok (.iconst 1, 1) := by decide +kernel
theorem dX5_cut_60 : decode cX5_cut 60 = .ok (.putfield 54, 3) := by decide +kernel
theorem dX5_cut_63 : decode cX5_cut 63 = .ok (.iconst 1, 1) := by decide +kernel
theorem dX5_cut_64 : decode cX5_cut 64 = .ok (.ireturn, 1) := by decide +kernel
set_option maxRecDepth 20000 in
theorem ggX5_stain_X1_has : GoodIn wsX5_stain wsX1_has := goodIn_r _ [8, 9, 24, 25, 26, 27, 28, 29, 30] (by decide +kernel) (by decide +kernel)
set_option maxRecDepth 20000 in
theorem gX5_stain_X1_has : GoodIn wsX5_stain (wsV RX5 83 RX1 yX1_has wsX1_has) := goodIn_app (goodIn_of _ (by decide +kernel)) ggX5_stain_X1_has
set_option maxRecDepth 20000 in
theorem ggX5_stain_X5_isWithin : GoodIn wsX5_stain wsX5_isWithin := goodIn_r _ [13] (by decide +kernel) (by decide +kernel)
set_option maxRecDepth 20000 in
theorem gX5_stain_X5_isWithin : GoodIn wsX5_stain (va_wsS RX5 86 yX5_isWithin wsX5_isWithin) := goodIn_app (goodIn_of _ (by decide +kernel)) ggX5_stain_X5_isWithin
set_option maxRecDepth 20000 in
theorem ggX5_stain_X5_isMark : GoodIn wsX5_stain wsX5_isMark := goodIn_r _ [16, 10, 11, 12, 13] (by decide +kernel) (by decide +kernel)
set_option maxRecDepth 20000 in
theorem gX5_stain_X5_isMark : GoodIn wsX5_stain (va_wsS RX5 57 yX5_isMark wsX5_isMark) := goodIn_app (goodIn_of _ (by decide +kernel)) ggX5_stain_X5_isMark
theorem dX5_stain_0 : decode cX5_stain 0 = .ok (.aload_n 0, 1) := by decide +kernel
theorem dX5_stain_1 : decode cX5_stain 1 = .ok (.getfield 12, 3) := by decide +kernel
theorem dX5_stain_4 : decode cX5_stain 4 = .ok (.iload_n 1, 1) := by decide +kernel
theorem dX5_stain_5 : decode cX5_stain 5 = .ok (.invokevirtual 83, 3) := by decide +kernel
theorem dX5_stain_8 : decode cX5_stain 8 = .ok (.ifCond .eq 18, 3) := by decide +kernel
theorem dX5_stain_11 : decode cX5_stain 11 = .ok (.iload_n 2, 1) := by decide +kernel
theorem dX5_stain_12 : decode cX5_stain 12 = .ok (.iconst 2, 1) := by decide +kernel
theorem dX5_stain_13 : decode cX5_stain 13 = .ok (.invokestatic 86, 3) := by decide +kernel
theorem dX5_stain_16 : decode cX5_stain 16 = .ok (.ifCond .eq 10, 3) := by decide +kernel
theorem dX5_stain_19 : decode cX5_stain 19 = .ok (.iload_n 3, 1) := by decide +kernel
theorem dX5_stain_20 : decode cX5_stain 20 = .ok (.invokestatic 57, 3) := by decide +kernel
theorem dX5_stain_23 : decode cX5_stain 23 = .ok (.ifCond .ne 5, 3) := by decide +kernel
theorem dX5_stain_26 : decode cX5_stain 26 = .ok (.iconst 0, 1) := by decide +kernel
theorem dX5_stain_27 : decode cX5_stain 27 = .ok (.ireturn, 1) := by decide +kernel
theorem dX5_stain_28 : decode cX5_stain 28 = .ok (.aload_n 0, 1) := by decide +kernel
theorem dX5_stain_29 : decode cX5_stain 29 = .ok (.getfield 12, 3) := by decide +kernel
theorem dX5_stain_32 : decode cX5_stain 32 = .ok (.getfield 89, 3) := by decide +kernel
theorem dX5_stain_35 : decode cX5_stain 35 = .ok (.iconst 3, 1) := by decide +kernel
theorem dX5_stain_36 : decode cX5_stain 36 = .ok (.iload_n 1, 1) := by decide +kernel
theorem dX5_stain_37 : decode cX5_stain 37 = .ok (.imul, 1) := by decide +kernel
theorem dX5_stain_38 : decode cX5_stain 38 = .ok (.iload_n 2, 1) := by decide +kernel
theorem dX5_stain_39 : decode cX5_stain 39 = .ok (.iadd, 1) := by decide +kernel
theorem dX5_stain_40 : decode cX5_stain 40 = .ok (.iload_n 3, 1) := by decide +kernel
theorem dX5_stain_41 : decode cX5_stain 41 = .ok (.iastore, 1) := by decide +kernel
theorem dX5_stain_42 : decode cX5_stain 42 = .ok (.aload_n 0, 1) := by decide +kernel
theorem dX5_stain_43 : decode cX5_stain 43 = .ok (.iconst 1, 1) := by decide +kernel
theorem dX5_stain_44 : decode cX5_stain 44 = .ok (.putfield 54, 3) := by decide +kernel
theorem dX5_stain_47 : decode cX5_stain 47 = .ok (.iconst 1, 1) := by decide +kernel
theorem dX5_stain_48 : decode cX5_stain 48 = .ok (.ireturn, 1) := by decide +kernel
set_option maxRecDepth 20000 in
theorem ggX5_weights_X5_isWithin : GoodIn wsX5_weights wsX5_isWithin := goodIn_r _ [7] (by decide +kernel) (by decide +kernel)
set_option maxRecDepth 20000 in
theorem gX5_weights_X5_isWithin : GoodIn wsX5_weights (va_wsS RX5 86 yX5_isWithin wsX5_isWithin) := goodIn_app (goodIn_of _ (by decide +kernel)) ggX5_weights_X5_isWithin
theorem dX5_weights_0 : decode cX5_weights 0 = .ok (.iload_n 1, 1) := by decide +kernel
theorem dX5_weights_1 : decode cX5_weights 1 = .ok (.bipush 9, 2) := by decide +kernel
theorem dX5_weights_3 : decode cX5_weights 3 = .ok (.invokestatic 86, 3) := by decide +kernel
theorem dX5_weights_6 : decode cX5_weights 6 = .ok (.ifCond .eq 56, 3) := by decide +kernel
theorem dX5_weights_9 : decode cX5_weights 9 = .ok (.iload_n 2, 1) := by decide +kernel
theorem dX5_weights_10 : decode cX5_weights 10 = .ok (.bipush 9, 2) := by decide +kernel
theorem dX5_weights_12 : decode cX5_weights 12 = .ok (.invokestatic 86, 3) := by decide +kernel
theorem dX5_weights_15 : decode cX5_weights 15 = .ok (.ifCond .eq 47, 3) := by decide +kernel
theorem dX5_weights_18 : decode cX5_weights 18 = .ok (.iload_n 3, 1) := by decide +kernel
theorem dX5_weights_19 : decode cX5_weights 19 = .ok (.bipush 99, 2) := by decide +kernel
theorem dX5_weights_21 : decode cX5_weights 21 = .ok (.invokestatic 86, 3) := by decide +kernel
theorem dX5_weights_24 : decode cX5_weights 24 = .ok (.ifCond .eq 38, 3) := by decide +kernel
theorem dX5_weights_27 : decode cX5_weights 27 = .ok (.iload 4, 2) := by decide +kernel
theorem dX5_weights_29 : decode cX5_weights 29 = .ok (.bipush 99, 2) := by decide +kernel
theorem dX5_weights_31 : decode cX5_weights 31 = .ok (.invokestatic 86, 3) := by decide +kernel
theorem dX5_weights_34 : decode cX5_weights 34 = .ok (.ifCond .eq 28, 3) := by decide +kernel
theorem dX5_weights_37 : decode cX5_weights 37 = .ok (.iload 5, 2) := by decide +kernel
theorem dX5_weights_39 : decode cX5_weights 39 = .ok (.bipush 99, 2) := by decide +kernel
theorem dX5_weights_41 : decode cX5_weights 41 = .ok (.invokestatic 86, 3) := by decide +kernel
theorem dX5_weights_44 : decode cX5_weights 44 = .ok (.ifCond .eq 18, 3) := by decide +kernel
theorem dX5_weights_47 : decode cX5_weights 47 = .ok (.iload 6, 2) := by decide +kernel
theorem dX5_weights_49 : decode cX5_weights 49 = .ok (.sipush 999, 3) := by decide +kernel
theorem dX5_weights_52 : decode cX5_weights 52 = .ok (.invokestatic 86, 3) := by decide +kernel
theorem dX5_weights_55 : decode cX5_weights 55 = .ok (.ifCond .eq 7, 3) := by decide +kernel
theorem dX5_weights_58 : decode cX5_weights 58 = .ok (.iconst 1, 1) := by decide +kernel
theorem dX5_weights_59 : decode cX5_weights 59 = .ok (.goto 4, 3) := by decide +kernel
theorem dX5_weights_62 : decode cX5_weights 62 = .ok (.iconst 0, 1) := by decide +kernel
theorem dX5_weights_63 : decode cX5_weights 63 = .ok (.istore 7, 2) := by decide +kernel
theorem dX5_weights_65 : decode cX5_weights 65 = .ok (.iload 7, 2) := by decide +kernel
theorem dX5_weights_67 : decode cX5_weights 67 = .ok (.ifCond .ne 5, 3) := by decide +kernel
theorem dX5_weights_70 : decode cX5_weights 70 = .ok (.iconst 0, 1) := by decide +kernel
theorem dX5_weights_71 : decode cX5_weights 71 = .ok (.ireturn, 1) := by decide +kernel
theorem dX5_weights_72 : decode cX5_weights 72 = .ok (.aload_n 0, 1) := by decide +kernel
theorem dX5_weights_73 : decode cX5_weights 73 = .ok (.getfield 21, 3) := by decide +kernel
theorem dX5_weights_76 : decode cX5_weights 76 = .ok (.getfield 92, 3) := by decide +kernel
theorem dX5_weights_79 : decode cX5_weights 79 = .ok (.iconst 0, 1) := by decide +kernel
theorem dX5_weights_80 : decode cX5_weights 80 = .ok (.iload_n 1, 1) := by decide +kernel
theorem dX5_weights_81 : decode cX5_weights 81 = .ok (.iastore, 1) := by decide +kernel
theorem dX5_weights_82 : decode cX5_weights 82 = .ok (.aload_n 0, 1) := by decide +kernel
theorem dX5_weights_83 : decode cX5_weights 83 = .ok (.getfield 21, 3) := by decide +kernel
theorem dX5_weights_86 : decode cX5_weights 86 = .ok (.getfield 92, 3) := by decide +kernel
theorem dX5_weights_89 : decode cX5_weights 89 = .ok (.iconst 1, 1) := by decide +kernel
theorem dX5_weights_90 : decode cX5_weights 90 = .ok (.iload_n 2, 1) := by decide +kernel
theorem dX5_weights_91 : decode cX5_weights 91 = .ok (.iastore, 1) := by decide +kernel
theorem dX5_weights_92 : decode cX5_weights 92 = .ok (.aload_n 0, 1) := by decide +kernel
theorem dX5_weights_93 : decode cX5_weights 93 = .ok (.getfield 21, 3) := by decide +kernel
theorem dX5_weights_96 : decode cX5_weights 96 = .ok (.getfield 92, 3) := by decide +kernel
theorem dX5_weights_99 : decode cX5_weights 99 = .ok (.iconst 2, 1) := by decide +kernel
theorem dX5_weights_100 : decode cX5_weights 100 = .ok (.iload_n 3, 1) := by decide +kernel
theorem dX5_weights_101 : decode cX5_weights 101 = .ok (.iastore, 1) := by decide +kernel
theorem dX5_weights_102 : decode cX5_weights 102 = .ok (.aload_n 0, 1) := by decide +kernel
theorem dX5_weights_103 : decode cX5_weights 103 = .ok (.getfield 21, 3) := by decide +kernel
theorem dX5_weights_106 : decode cX5_weights 106 = .ok (.getfield 92, 3) := by decide +kernel
theorem dX5_weights_109 : decode cX5_weights 109 = .ok (.iconst 3, 1) := by decide +kernel
theorem dX5_weights_110 : decode cX5_weights 110 = .ok (.iload 4, 2) := by decide +kernel
theorem dX5_weights_112 : decode cX5_weights 112 = .ok (.iastore, 1) := by decide +kernel
theorem dX5_weights_113 : decode cX5_weights 113 = .ok (.aload_n 0, 1) := by decide +kernel
theorem dX5_weights_114 : decode cX5_weights 114 = .ok (.getfield 21, 3) := by decide +kernel
theorem dX5_weights_117 : decode cX5_weights 117 = .ok (.getfield 92, 3) := by decide +kernel
theorem dX5_weights_120 : decode cX5_weights 120 = .ok (.iconst 4, 1) := by decide +kernel
theorem dX5_weights_121 : decode cX5_weights 121 = .ok (.iload 5, 2) := by decide +kernel
theorem dX5_weights_123 : decode cX5_weights 123 = .ok (.iastore, 1) := by decide +kernel
theorem dX5_weights_124 : decode cX5_weights 124 = .ok (.aload_n 0, 1) := by decide +kernel
theorem dX5_weights_125 : decode cX5_weights 125 = .ok (.getfield 21, 3) := by decide +kernel
theorem dX5_weights_128 : decode cX5_weights 128 = .ok (.getfield 92, 3) := by decide +kernel
theorem dX5_weights_131 : decode cX5_weights 131 = .ok (.iconst 5, 1) := by decide +kernel
theorem dX5_weights_132 : decode cX5_weights 132 = .ok (.iload 6, 2) := by decide +kernel
theorem dX5_weights_134 : decode cX5_weights 134 = .ok (.iastore, 1) := by decide +kernel
theorem dX5_weights_135 : decode cX5_weights 135 = .ok (.aload_n 0, 1) := by decide +kernel
theorem dX5_weights_136 : decode cX5_weights 136 = .ok (.iconst 1, 1) := by decide +kernel
theorem dX5_weights_137 : decode cX5_weights 137 = .ok (.putfield 54, 3) := by decide +kernel
theorem dX5_weights_140 : decode cX5_weights 140 = .ok (.iconst 1, 1) := by decide +kernel
theorem dX5_weights_141 : decode cX5_weights 141 = .ok (.ireturn, 1) := by decide +kernel
theorem dX5_turnable_0 : decode cX5_turnable 0 = .ok (.aload_n 0, 1) := by decide +kernel
theorem dX5_turnable_1 : decode cX5_turnable 1 = .ok (.iload_n 1, 1) := by decide +kernel
theorem dX5_turnable_2 : decode cX5_turnable 2 = .ok (.putfield 50, 3) := by decide +kernel
theorem dX5_turnable_5 : decode cX5_turnable 5 = .ok (.aload_n 0, 1) := by decide +kernel
theorem dX5_turnable_6 : decode cX5_turnable 6 = .ok (.iconst 1, 1) := by decide +kernel
theorem dX5_turnable_7 : decode cX5_turnable 7 = .ok (.putfield 54, 3) := by decide +kernel
theorem dX5_turnable_10 : decode cX5_turnable 10 = .ok (.return_, 1) := by decide +kernel
set_option maxRecDepth 20000 in
theorem ggX5_must_X5_areTwo : GoodIn wsX5_must wsX5_areTwo := goodIn_r _ [7, 8, 9, 10, 11, 12, 13, 14, 30, 31, 32, 33, 34, 35, 36, 37, 38, 39, 40, 41, 42, 43] (by decide +kernel) (by decide +kernel)
set_option maxRecDepth 20000 in
theorem gX5_must_X5_areTwo : GoodIn wsX5_must (wsV RX5 95 RX5 yX5_areTwo wsX5_areTwo) := goodIn_app (goodIn_of _ (by decide +kernel)) ggX5_must_X5_areTwo
set_option maxRecDepth 20000 in
theorem ggX5_must_X2_putJoined : GoodIn wsX5_must wsX2_putJoined := goodIn_r _ [19, 20, 21, 22, 23, 18, 24, 44, 45, 46] (by decide +kernel) (by decide +kernel)
set_option maxRecDepth 20000 in
theorem gX5_must_X2_putJoined : GoodIn wsX5_must (wsV RX5 98 RX2 yX2_putJoined wsX2_putJoined) := goodIn_app (goodIn_of _ (by decide +kernel)) ggX5_must_X2_putJoined
set_option maxRecDepth 20000 in
theorem ggX5_must_X2_putAhead : GoodIn wsX5_must wsX2_putAhead := goodIn_r _ [28, 29, 22, 23, 18, 24, 44, 45, 46] (by decide +kernel) (by decide +kernel)
set_option maxRecDepth 20000 in
theorem gX5_must_X2_putAhead : GoodIn wsX5_must (wsV RX5 102 RX2 yX2_putAhead wsX2_putAhead) := goodIn_app (goodIn_of _ (by decide +kernel)) ggX5_must_X2_putAhead
theorem dX5_must_0 : decode cX5_must 0 = .ok (.aload_n 0, 1) := by decide +kernel
theorem dX5_must_1 : decode cX5_must 1 = .ok (.iload_n 1, 1) := by decide +kernel
theorem dX5_must_2 : decode cX5_must 2 = .ok (.iload_n 2, 1) := by decide +kernel
theorem dX5_must_3 : decode cX5_must 3 = .ok (.invokevirtual 95, 3) := by decide +kernel
theorem dX5_must_6 : decode cX5_must 6 = .ok (.ifCond .ne 5, 3) := by decide +kernel
theorem dX5_must_9 : decode cX5_must 9 = .ok (.iconst 0, 1) := by decide +kernel
theorem dX5_must_10 : decode cX5_must 10 = .ok (.ireturn, 1) := by decide +kernel
theorem dX5_must_11 : decode cX5_must 11 = .ok (.iload_n 3, 1) := by decide +kernel
theorem dX5_must_12 : decode cX5_must 12 = .ok (.ifCond .eq 17, 3) := by decide +kernel
theorem dX5_must_15 : decode cX5_must 15 = .ok (.aload_n 0, 1) := by decide +kernel
theorem dX5_must_16 : decode cX5_must 16 = .ok (.getfield 28, 3) := by decide +kernel
theorem dX5_must_19 : decode cX5_must 19 = .ok (.iload_n 1, 1) := by decide +kernel
theorem dX5_must_20 : decode cX5_must 20 = .ok (.iload_n 2, 1) := by decide +kernel
theorem dX5_must_21 : decode cX5_must 21 = .ok (.iload 4, 2) := by decide +kernel
theorem dX5_must_23 : decode cX5_must 23 = .ok (.invokevirtual 98, 3) := by decide +kernel
theorem dX5_must_26 : decode cX5_must 26 = .ok (.goto 14, 3) := by decide +kernel
theorem dX5_must_29 : decode cX5_must 29 = .ok (.aload_n 0, 1) := by decide +kernel
theorem dX5_must_30 : decode cX5_must 30 = .ok (.getfield 28, 3) := by decide +kernel
theorem dX5_must_33 : decode cX5_must 33 = .ok (.iload_n 1, 1) := by decide +kernel
theorem dX5_must_34 : decode cX5_must 34 = .ok (.iload_n 2, 1) := by decide +kernel
theorem dX5_must_35 : decode cX5_must 35 = .ok (.iload 4, 2) := by decide +kernel
theorem dX5_must_37 : decode cX5_must 37 = .ok (.invokevirtual 102, 3) := by decide +kernel
theorem dX5_must_40 : decode cX5_must 40 = .ok (.aload_n 0, 1) := by decide +kernel
theorem dX5_must_41 : decode cX5_must 41 = .ok (.iconst 1, 1) := by decide +kernel
theorem dX5_must_42 : decode cX5_must 42 = .ok (.putfield 54, 3) := by decide +kernel
theorem dX5_must_45 : decode cX5_must 45 = .ok (.iconst 1, 1) := by decide +kernel
theorem dX5_must_46 : decode cX5_must 46 = .ok (.ireturn, 1) := by decide +kernel
set_option maxRecDepth 20000 in
theorem ggX5_join_X5_areTwo : GoodIn wsX5_join wsX5_areTwo := goodIn_r _ [7, 8, 9, 10, 11, 12, 13, 14, 48, 49, 50, 51, 52, 53, 54, 55, 56, 57, 58, 59, 60, 61] (by decide +kernel) (by decide +kernel)
set_option maxRecDepth 20000 in
theorem gX5_join_X5_areTwo : GoodIn wsX5_join (wsV RX5 95 RX5 yX5_areTwo wsX5_areTwo) := goodIn_app (goodIn_of _ (by decide +kernel)) ggX5_join_X5_areTwo
set_option maxRecDepth 20000 in
theorem ggX5_join_X5_standOf : GoodIn wsX5_join wsX5_standOf := goodIn_r _ [17] (by decide +kernel) (by decide +kernel)
set_option maxRecDepth 20000 in
theorem gX5_join_X5_standOf : GoodIn wsX5_join (va_wsS RX5 105 yX5_standOf wsX5_standOf) := goodIn_app (goodIn_of _ (by decide +kernel)) ggX5_join_X5_standOf
set_option maxRecDepth 20000 in
theorem ggX5_join_X3_joinCost : GoodIn wsX5_join wsX3_joinCost := goodIn_r _ [22, 23, 24, 25, 26, 21, 27, 28, 29, 30, 31, 32, 33, 34, 35, 36, 37, 38, 39, 40, 12, 41, 42, 43, 44, 45, 46, 47, 62, 63, 55, 56, 57, 58, 59, 60, 61] (by decide +kernel) (by decide +kernel)
set_option maxRecDepth 20000 in
theorem gX5_join_X3_joinCost : GoodIn wsX5_join (wsV RX5 109 RX3 yX3_joinCost wsX3_joinCost) := goodIn_app (goodIn_of _ (by decide +kernel)) ggX5_join_X3_joinCost
theorem dX5_join_0 : decode cX5_join 0 = .ok (.aload_n 0, 1) := by decide +kernel
theorem dX5_join_1 : decode cX5_join 1 = .ok (.iload_n 1, 1) := by decide +kernel
theorem dX5_join_2 : decode cX5_join 2 = .ok (.iload_n 3, 1) := by decide +kernel
theorem dX5_join_3 : decode cX5_join 3 = .ok (.invokevirtual 95, 3) := by decide +kernel
theorem dX5_join_6 : decode cX5_join 6 = .ok (.ifCond .eq 19, 3) := by decide +kernel
theorem dX5_join_9 : decode cX5_join 9 = .ok (.iload_n 2, 1) := by decide +kernel
theorem dX5_join_10 : decode cX5_join 10 = .ok (.ifCond .ne 8, 3) := by decide +kernel
theorem dX5_join_13 : decode cX5_join 13 = .ok (.iload 4, 2) := by decide +kernel
theorem dX5_join_15 : decode cX5_join 15 = .ok (.ifCond .eq 12, 3) := by decide +kernel
theorem dX5_join_18 : decode cX5_join 18 = .ok (.aload_n 0, 1) := by decide +kernel
theorem dX5_join_19 : decode cX5_join 19 = .ok (.getfield 50, 3) := by decide +kernel
theorem dX5_join_22 : decode cX5_join 22 = .ok (.ifCond .ne 5, 3) := by decide +kernel
theorem dX5_join_25 : decode cX5_join 25 = .ok (.iconst (-1), 1) := by decide +kernel
theorem dX5_join_26 : decode cX5_join 26 = .ok (.ireturn, 1) := by decide +kernel
theorem dX5_join_27 : decode cX5_join 27 = .ok (.aload_n 0, 1) := by decide +kernel
theorem dX5_join_28 : decode cX5_join 28 = .ok (.getfield 21, 3) := by decide +kernel
theorem dX5_join_31 : decode cX5_join 31 = .ok (.iload_n 1, 1) := by decide +kernel
theorem dX5_join_32 : decode cX5_join 32 = .ok (.iload_n 2, 1) := by decide +kernel
theorem dX5_join_33 : decode cX5_join 33 = .ok (.invokestatic 105, 3) := by decide +kernel
theorem dX5_join_36 : decode cX5_join 36 = .ok (.iload_n 3, 1) := by decide +kernel
theorem dX5_join_37 : decode cX5_join 37 = .ok (.iload 4, 2) := by decide +kernel
theorem dX5_join_39 : decode cX5_join 39 = .ok (.invokestatic 105, 3) := by decide +kernel
theorem dX5_join_42 : decode cX5_join 42 = .ok (.invokevirtual 109, 3) := by decide +kernel
theorem dX5_join_45 : decode cX5_join 45 = .ok (.ireturn, 1) := by decide +kernel
set_option maxRecDepth 20000 in
theorem ggX5_best_X5_refresh : GoodIn wsX5_best wsX5_refresh := goodIn_r _ [7, 8, 1, 9, 10, 11, 12, 13, 14, 15, 16, 17, 18, 19, 20, 21, 22, 23, 24, 25, 26, 27, 28, 29, 30, 31, 32, 33, 34, 35, 36, 37, 38, 39, 40, 41, 42, 43, 44, 45, 46, 47, 48, 49, 50, 51, 52, 53, 54, 55, 56, 57, 58, 59, 60, 61, 62, 63, 64, 65, 66, 67, 68, 69, 70, 71, 72, 73, 74, 75, 76, 77, 78, 79, 80, 81, 82, 83, 84, 85, 86, 87, 88, 89, 90, 91, 92, 93, 94, 95, 96, 97, 98, 99, 100, 101, 102, 103, 104, 105, 106, 107, 108, 109, 110, 111, 112, 113, 114, 115, 116, 117, 118, 119, 120, 121, 122, 123, 124, 125, 126, 127, 128, 129, 130, 131, 132, 133, 138, 139, 140, 141, 142, 143, 144, 154, 155, 156, 157, 158, 159, 160, 161, 162, 145, 146, 147, 148, 149, 150, 151, 152, 153, 163, 164, 165, 166, 167, 168] (by decide +kernel) (by decide +kernel)
set_option maxRecDepth 20000 in
theorem gX5_best_X5_refresh : GoodIn wsX5_best (wsV RX5 113 RX5 yX5_refresh wsX5_refresh) := goodIn_app (goodIn_of _ (by decide +kernel)) ggX5_best_X5_refresh
set_option maxRecDepth 20000 in
theorem ggX5_best_X5_costOrNone : GoodIn wsX5_best wsX5_costOrNone := goodIn_r _ [136, 137] (by decide +kernel) (by decide +kernel)
set_option maxRecDepth 20000 in
theorem gX5_best_X5_costOrNone : GoodIn wsX5_best (va_wsS RX5 119 yX5_costOrNone wsX5_costOrNone) := goodIn_app (goodIn_of _ (by decide +kernel)) ggX5_best_X5_costOrNone
theorem dX5_best_0 : decode cX5_best 0 = .ok (.aload_n 0, 1) := by decide +kernel
theorem dX5_best_1 : decode cX5_best 1 = .ok (.invokevirtual 113, 3) := by decide +kernel
theorem dX5_best_4 : decode cX5_best 4 = .ok (.aload_n 0, 1) := by decide +kernel
theorem dX5_best_5 : decode cX5_best 5 = .ok (.getfield 37, 3) := by decide +kernel
theorem dX5_best_8 : decode cX5_best 8 = .ok (.getfield 116, 3) := by decide +kernel
theorem dX5_best_11 : decode cX5_best 11 = .ok (.invokestatic 119, 3) := by decide +kernel
theorem dX5_best_14 : decode cX5_best 14 = .ok (.ireturn, 1) := by decide +kernel
set_option maxRecDepth 20000 in
theorem ggX5_at_X5_refresh : GoodIn wsX5_at wsX5_refresh := goodIn_r _ [12, 13, 1, 7, 14, 15, 16, 17, 18, 19, 20, 21, 22, 23, 24, 25, 26, 27, 28, 29, 30, 31, 32, 33, 34, 35, 36, 37, 38, 39, 40, 41, 42, 43, 44, 45, 46, 47, 48, 49, 50, 51, 52, 53, 54, 55, 56, 57, 58, 59, 60, 61, 62, 63, 64, 65, 66, 67, 68, 69, 70, 71, 72, 73, 74, 75, 76, 77, 78, 79, 80, 81, 82, 83, 84, 85, 86, 87, 88, 89, 90, 91, 92, 93, 94, 95, 96, 97, 98, 99, 100, 101, 102, 103, 104, 105, 106, 107, 108, 109, 110, 111, 112, 113, 114, 115, 116, 117, 118, 119, 120, 121, 122, 123, 124, 125, 126, 127, 128, 129, 130, 131, 132, 133, 134, 135, 136, 137, 142, 143, 144, 145, 146, 147, 148, 165, 166, 158, 159, 160, 161, 162, 163, 164, 149, 150, 151, 152, 153, 154, 155, 156, 157, 167, 168, 169, 170, 171, 172] (by decide +kernel) (by decide +kernel)
set_option maxRecDepth 20000 in
theorem gX5_at_X5_refresh : GoodIn wsX5_at (wsV RX5 113 RX5 yX5_refresh wsX5_refresh) := goodIn_app (goodIn_of _ (by decide +kernel)) ggX5_at_X5_refresh
set_option maxRecDepth 20000 in
theorem ggX5_at_X3_isMissing : GoodIn wsX5_at wsX3_isMissing := goodIn_r _ [141, 34, 35, 36, 31, 37, 38, 39, 40, 33, 41, 42, 43, 44, 45, 46, 47, 48, 49, 50, 51, 52, 53, 54, 55, 56, 57, 58, 165, 166, 158, 159, 160, 161, 162, 163, 164] (by decide +kernel) (by decide +kernel)
set_option maxRecDepth 20000 in
theorem gX5_at_X3_isMissing : GoodIn wsX5_at (wsV RX5 127 RX3 yX3_isMissing wsX3_isMissing) := goodIn_app (goodIn_of _ (by decide +kernel)) ggX5_at_X3_isMissing
theorem dX5_at_0 : decode cX5_at 0 = .ok (.aload_n 0, 1) := by decide +kernel
theorem dX5_at_1 : decode cX5_at 1 = .ok (.invokevirtual 113, 3) := by decide +kernel
theorem dX5_at_4 : decode cX5_at 4 = .ok (.aload_n 0, 1) := by decide +kernel
theorem dX5_at_5 : decode cX5_at 5 = .ok (.getfield 37, 3) := by decide +kernel
theorem dX5_at_8 : decode cX5_at 8 = .ok (.getfield 116, 3) := by decide +kernel
theorem dX5_at_11 : decode cX5_at 11 = .ok (.ldc 123, 2) := by decide +kernel
theorem dX5_at_13 : decode cX5_at 13 = .ok (.if_icmp .ge 18, 3) := by decide +kernel
theorem dX5_at_16 : decode cX5_at 16 = .ok (.iload_n 1, 1) := by decide +kernel
theorem dX5_at_17 : decode cX5_at 17 = .ok (.ifCond .lt 14, 3) := by decide +kernel
theorem dX5_at_20 : decode cX5_at 20 = .ok (.iload_n 1, 1) := by decide +kernel
theorem dX5_at_21 : decode cX5_at 21 = .ok (.aload_n 0, 1) := by decide +kernel
theorem dX5_at_22 : decode cX5_at 22 = .ok (.getfield 12, 3) := by decide +kernel
theorem dX5_at_25 : decode cX5_at 25 = .ok (.getfield 61, 3) := by decide +kernel
theorem dX5_at_28 : decode cX5_at 28 = .ok (.if_icmp .lt 5, 3) := by decide +kernel
theorem dX5_at_31 : decode cX5_at 31 = .ok (.iconst (-1), 1) := by decide +kernel
theorem dX5_at_32 : decode cX5_at 32 = .ok (.ireturn, 1) := by decide +kernel
theorem dX5_at_33 : decode cX5_at 33 = .ok (.aload_n 0, 1) := by decide +kernel
theorem dX5_at_34 : decode cX5_at 34 = .ok (.getfield 37, 3) := by decide +kernel
theorem dX5_at_37 : decode cX5_at 37 = .ok (.getfield 124, 3) := by decide +kernel
theorem dX5_at_40 : decode cX5_at 40 = .ok (.iload_n 1, 1) := by decide +kernel
theorem dX5_at_41 : decode cX5_at 41 = .ok (.iaload, 1) := by decide +kernel
theorem dX5_at_42 : decode cX5_at 42 = .ok (.istore_n 3, 1) := by decide +kernel
theorem dX5_at_43 : decode cX5_at 43 = .ok (.iload_n 2, 1) := by decide +kernel
theorem dX5_at_44 : decode cX5_at 44 = .ok (.tableswitch 68 0 2 #[28, 32, 36], 28) := by decide +kernel
theorem dX5_at_72 : decode cX5_at 72 = .ok (.iload_n 3, 1) := by decide +kernel
theorem dX5_at_73 : decode cX5_at 73 = .ok (.iconst 1, 1) := by decide +kernel
theorem dX5_at_74 : decode cX5_at 74 = .ok (.ishr, 1) := by decide +kernel
theorem dX5_at_75 : decode cX5_at 75 = .ok (.ireturn, 1) := by decide +kernel
theorem dX5_at_76 : decode cX5_at 76 = .ok (.iload_n 3, 1) := by decide +kernel
theorem dX5_at_77 : decode cX5_at 77 = .ok (.iconst 1, 1) := by decide +kernel
theorem dX5_at_78 : decode cX5_at 78 = .ok (.iand, 1) := by decide +kernel
theorem dX5_at_79 : decode cX5_at 79 = .ok (.ireturn, 1) := by decide +kernel
theorem dX5_at_80 : decode cX5_at 80 = .ok (.iload_n 1, 1) := by decide +kernel
theorem dX5_at_81 : decode cX5_at 81 = .ok (.ifCond .le 29, 3) := by decide +kernel
theorem dX5_at_84 : decode cX5_at 84 = .ok (.aload_n 0, 1) := by decide +kernel
theorem dX5_at_85 : decode cX5_at 85 = .ok (.getfield 21, 3) := by decide +kernel
theorem dX5_at_88 : decode cX5_at 88 = .ok (.aload_n 0, 1) := by decide +kernel
theorem dX5_at_89 : decode cX5_at 89 = .ok (.getfield 37, 3) := by decide +kernel
theorem dX5_at_92 : decode cX5_at 92 = .ok (.getfield 124, 3) := by decide +kernel
theorem dX5_at_95 : decode cX5_at 95 = .ok (.iload_n 1, 1) := by decide +kernel
theorem dX5_at_96 : decode cX5_at 96 = .ok (.iconst 1, 1) := by decide +kernel
theorem dX5_at_97 : decode cX5_at 97 = .ok (.isub, 1) := by decide +kernel
theorem dX5_at_98 : decode cX5_at 98 = .ok (.iaload, 1) := by decide +kernel
theorem dX5_at_99 : decode cX5_at 99 = .ok (.iload_n 3, 1) := by decide +kernel
theorem dX5_at_100 : decode cX5_at 100 = .ok (.invokevirtual 127, 3) := by decide +kernel
theorem dX5_at_103 : decode cX5_at 103 = .ok (.ifCond .eq 7, 3) := by decide +kernel
theorem dX5_at_106 : decode cX5_at 106 = .ok (.iconst 1, 1) := by decide +kernel
theorem dX5_at_107 : decode cX5_at 107 = .ok (.goto 4, 3) := by decide +kernel
theorem dX5_at_110 : decode cX5_at 110 = .ok (.iconst 0, 1) := by decide +kernel
theorem dX5_at_111 : decode cX5_at 111 = .ok (.ireturn, 1) := by decide +kernel
theorem dX5_at_112 : decode cX5_at 112 = .ok (.iconst (-1), 1) := by decide +kernel
theorem dX5_at_113 : decode cX5_at 113 = .ok (.ireturn, 1) := by decide +kernel
set_option maxRecDepth 20000 in
theorem ggX5_next_X5_refresh : GoodIn wsX5_next wsX5_refresh := goodIn_r _ [7, 8, 1, 9, 10, 11, 12, 13, 14, 15, 16, 17, 18, 19, 20, 21, 22, 23, 24, 25, 26, 27, 28, 29, 30, 31, 32, 33, 34, 35, 36, 37, 38, 39, 40, 41, 42, 43, 44, 45, 46, 47, 48, 49, 50, 51, 52, 53, 54, 55, 56, 57, 58, 59, 60, 61, 62, 63, 64, 65, 66, 67, 68, 69, 70, 71, 72, 73, 74, 75, 76, 77, 78, 79, 80, 81, 82, 83, 84, 85, 86, 87, 88, 89, 90, 91, 92, 93, 94, 95, 96, 97, 98, 99, 100, 101, 102, 103, 104, 105, 106, 107, 108, 109, 110, 111, 112, 113, 114, 115, 116, 117, 118, 119, 120, 121, 122, 123, 124, 125, 126, 127, 128, 129, 130, 131, 132, 133, 138, 139, 140, 141, 142, 143, 144, 154, 155, 156, 157, 158, 159, 160, 161, 162, 145, 146, 147, 148, 149, 150, 151, 152, 153, 163, 164, 165, 166, 167, 168] (by decide +kernel) (by decide +kernel)
set_option maxRecDepth 20000 in
theorem gX5_next_X5_refresh : GoodIn wsX5_next (wsV RX5 113 RX5 yX5_refresh wsX5_refresh) := goodIn_app (goodIn_of _ (by decide +kernel)) ggX5_next_X5_refresh
set_option maxRecDepth 20000 in
theorem ggX5_next_X5_costOrNone : GoodIn wsX5_next wsX5_costOrNone := goodIn_r _ [136, 137] (by decide +kernel) (by decide +kernel)
set_option maxRecDepth 20000 in
theorem gX5_next_X5_costOrNone : GoodIn wsX5_next (va_wsS RX5 119 yX5_costOrNone wsX5_costOrNone) := goodIn_app (goodIn_of _ (by decide +kernel)) ggX5_next_X5_costOrNone
theorem dX5_next_0 : decode cX5_next 0 = .ok (.aload_n 0, 1) := by decide +kernel
theorem dX5_next_1 : decode cX5_next 1 = .ok (.invokevirtual 113, 3) := by decide +kernel
theorem dX5_next_4 : decode cX5_next 4 = .ok (.aload_n 0, 1) := by decide +kernel
theorem dX5_next_5 : decode cX5_next 5 = .ok (.getfield 37, 3) := by decide +kernel
theorem dX5_next_8 : decode cX5_next 8 = .ok (.getfield 130, 3) := by decide +kernel
theorem dX5_next_11 : decode cX5_next 11 = .ok (.invokestatic 119, 3) := by decide +kernel
theorem dX5_next_14 : decode cX5_next 14 = .ok (.ireturn, 1) := by decide +kernel
set_option maxRecDepth 20000 in
theorem ggX5_sure_X5_areTwo : GoodIn wsX5_sure wsX5_areTwo := goodIn_r _ [8, 9, 10, 11, 12, 13, 14, 15, 156, 157, 158, 159, 160, 161, 162, 172, 173, 174, 175, 176, 177, 178] (by decide +kernel) (by decide +kernel)
set_option maxRecDepth 20000 in
theorem gX5_sure_X5_areTwo : GoodIn wsX5_sure (wsV RX5 95 RX5 yX5_areTwo wsX5_areTwo) := goodIn_app (goodIn_of _ (by decide +kernel)) ggX5_sure_X5_areTwo
set_option maxRecDepth 20000 in
theorem ggX5_sure_X5_isWithin : GoodIn wsX5_sure wsX5_isWithin := goodIn_r _ [18] (by decide +kernel) (by decide +kernel)
set_option maxRecDepth 20000 in
theorem gX5_sure_X5_isWithin : GoodIn wsX5_sure (va_wsS RX5 86 yX5_isWithin wsX5_isWithin) := goodIn_app (goodIn_of _ (by decide +kernel)) ggX5_sure_X5_isWithin
set_option maxRecDepth 20000 in
theorem ggX5_sure_X5_refresh : GoodIn wsX5_sure wsX5_refresh := goodIn_r _ [22, 23, 1, 24, 25, 26, 27, 28, 29, 30, 31, 32, 33, 34, 35, 36, 37, 38, 39, 40, 41, 42, 43, 44, 45, 46, 47, 48, 49, 50, 51, 52, 53, 54, 55, 56, 57, 58, 59, 60, 61, 13, 62, 63, 64, 65, 66, 67, 68, 69, 70, 71, 72, 73, 74, 75, 76, 77, 78, 79, 80, 81, 82, 83, 84, 85, 86, 87, 88, 89, 90, 91, 92, 93, 94, 95, 96, 97, 98, 99, 100, 101, 102, 103, 104, 105, 106, 107, 108, 109, 110, 111, 112, 113, 114, 115, 116, 117, 118, 119, 120, 121, 122, 123, 124, 125, 126, 127, 128, 129, 130, 131, 132, 133, 134, 135, 136, 137, 138, 139, 140, 141, 142, 143, 144, 145, 146, 147, 156, 157, 158, 159, 160, 161, 162, 179, 180, 172, 173, 174, 175, 176, 177, 178, 163, 164, 165, 166, 167, 168, 169, 170, 171, 181, 182, 183, 184, 185, 186] (by decide +kernel) (by decide +kernel)
set_option maxRecDepth 20000 in
theorem gX5_sure_X5_refresh : GoodIn wsX5_sure (wsV RX5 113 RX5 yX5_refresh wsX5_refresh) := goodIn_app (goodIn_of _ (by decide +kernel)) ggX5_sure_X5_refresh
set_option maxRecDepth 20000 in
theorem ggX5_sure_X4_isSure : GoodIn wsX5_sure wsX4_isSure := goodIn_r _ [151, 75, 74, 152, 153, 154, 30, 155, 34, 124, 76, 77, 78, 79, 80, 81, 82, 83, 84, 85, 86, 87, 88, 89, 90, 91, 92, 93, 94, 95, 96, 97, 98, 99, 100, 101, 36, 37, 102, 103, 55, 104, 105, 106, 107, 108, 109, 110, 111, 112, 113, 114, 115, 38, 116, 117, 118, 119, 163, 164, 165, 166, 167, 168, 169, 170, 171, 181, 182, 183] (by decide +kernel) (by decide +kernel)
set_option maxRecDepth 20000 in
theorem gX5_sure_X4_isSure : GoodIn wsX5_sure (wsV RX5 133 RX4 yX4_isSure wsX4_isSure) := goodIn_app (goodIn_of _ (by decide +kernel)) ggX5_sure_X4_isSure
theorem dX5_sure_0 : decode cX5_sure 0 = .ok (.aload_n 0, 1) := by decide +kernel
theorem dX5_sure_1 : decode cX5_sure 1 = .ok (.iload_n 1, 1) := by decide +kernel
theorem dX5_sure_2 : decode cX5_sure 2 = .ok (.iload_n 2, 1) := by decide +kernel
theorem dX5_sure_3 : decode cX5_sure 3 = .ok (.invokevirtual 95, 3) := by decide +kernel
theorem dX5_sure_6 : decode cX5_sure 6 = .ok (.ifCond .eq 13, 3) := by decide +kernel
theorem dX5_sure_9 : decode cX5_sure 9 = .ok (.iload_n 3, 1) := by decide +kernel
theorem dX5_sure_10 : decode cX5_sure 10 = .ok (.sipush 1000, 3) := by decide +kernel
theorem dX5_sure_13 : decode cX5_sure 13 = .ok (.invokestatic 86, 3) := by decide +kernel
theorem dX5_sure_16 : decode cX5_sure 16 = .ok (.ifCond .ne 5, 3) := by decide +kernel
theorem dX5_sure_19 : decode cX5_sure 19 = .ok (.iconst (-1), 1) := by decide +kernel
theorem dX5_sure_20 : decode cX5_sure 20 = .ok (.ireturn, 1) := by decide +kernel
theorem dX5_sure_21 : decode cX5_sure 21 = .ok (.aload_n 0, 1) := by decide +kernel
theorem dX5_sure_22 : decode cX5_sure 22 = .ok (.invokevirtual 113, 3) := by decide +kernel
theorem dX5_sure_25 : decode cX5_sure 25 = .ok (.aload_n 0, 1) := by decide +kernel
theorem dX5_sure_26 : decode cX5_sure 26 = .ok (.getfield 37, 3) := by decide +kernel
theorem dX5_sure_29 : decode cX5_sure 29 = .ok (.getfield 116, 3) := by decide +kernel
theorem dX5_sure_32 : decode cX5_sure 32 = .ok (.ldc 123, 2) := by decide +kernel
theorem dX5_sure_34 : decode cX5_sure 34 = .ok (.if_icmp .lt 5, 3) := by decide +kernel
theorem dX5_sure_37 : decode cX5_sure 37 = .ok (.iconst (-1), 1) := by decide +kernel
theorem dX5_sure_38 : decode cX5_sure 38 = .ok (.ireturn, 1) := by decide +kernel
theorem dX5_sure_39 : decode cX5_sure 39 = .ok (.aload_n 0, 1) := by decide +kernel
theorem dX5_sure_40 : decode cX5_sure 40 = .ok (.getfield 37, 3) := by decide +kernel
theorem dX5_sure_43 : decode cX5_sure 43 = .ok (.iload_n 1, 1) := by decide +kernel
theorem dX5_sure_44 : decode cX5_sure 44 = .ok (.iload_n 2, 1) := by decide +kernel
theorem dX5_sure_45 : decode cX5_sure 45 = .ok (.iload_n 3, 1) := by decide +kernel
theorem dX5_sure_46 : decode cX5_sure 46 = .ok (.invokevirtual 133, 3) := by decide +kernel
theorem dX5_sure_49 : decode cX5_sure 49 = .ok (.ifCond .eq 7, 3) := by decide +kernel
theorem dX5_sure_52 : decode cX5_sure 52 = .ok (.iconst 1, 1) := by decide +kernel
theorem dX5_sure_53 : decode cX5_sure 53 = .ok (.goto 4, 3) := by decide +kernel
theorem dX5_sure_56 : decode cX5_sure 56 = .ok (.iconst 0, 1) := by decide +kernel
theorem dX5_sure_57 : decode cX5_sure 57 = .ok (.ireturn, 1) := by decide +kernel
set_option maxRecDepth 20000 in
theorem ggX5_two_X5_refresh : GoodIn wsX5_two wsX5_refresh := goodIn_r _ [7, 8, 9, 10, 11, 1, 12, 13, 14, 15, 16, 17, 18, 19, 20, 21, 22, 23, 24, 25, 26, 27, 28, 29, 30, 31, 32, 33, 34, 35, 36, 37, 38, 39, 40, 41, 42, 43, 44, 45, 46, 47, 48, 49, 50, 51, 52, 53, 54, 55, 56, 57, 58, 59, 60, 61, 62, 63, 64, 65, 66, 67, 68, 69, 70, 71, 72, 73, 74, 75, 76, 77, 78, 79, 80, 81, 82, 83, 84, 85, 86, 87, 88, 89, 90, 91, 92, 93, 94, 95, 96, 97, 98, 99, 100, 101, 102, 103, 104, 105, 106, 107, 108, 109, 110, 111, 112, 113, 114, 115, 116, 117, 118, 119, 120, 121, 122, 123, 124, 125, 126, 127, 128, 129, 130, 131, 132, 133, 138, 139, 140, 141, 142, 143, 144, 148, 149, 150, 151, 152, 153, 154, 155, 156, 157, 158, 159, 160, 161, 162, 163, 164, 165, 166, 167, 168, 145, 146, 147] (by decide +kernel) (by decide +kernel)
set_option maxRecDepth 20000 in
theorem gX5_two_X5_refresh : GoodIn wsX5_two (wsV RX5 113 RX5 yX5_refresh wsX5_refresh) := goodIn_app (goodIn_of _ (by decide +kernel)) ggX5_two_X5_refresh
set_option maxRecDepth 20000 in
theorem ggX5_two_X5_costOrNone : GoodIn wsX5_two wsX5_costOrNone := goodIn_r _ [136, 137] (by decide +kernel) (by decide +kernel)
set_option maxRecDepth 20000 in
theorem gX5_two_X5_costOrNone : GoodIn wsX5_two (va_wsS RX5 119 yX5_costOrNone wsX5_costOrNone) := goodIn_app (goodIn_of _ (by decide +kernel)) ggX5_two_X5_costOrNone
theorem dX5_two_0 : decode cX5_two 0 = .ok (.aload_n 0, 1) := by decide +kernel
theorem dX5_two_1 : decode cX5_two 1 = .ok (.invokevirtual 113, 3) := by decide +kernel
theorem dX5_two_4 : decode cX5_two 4 = .ok (.aload_n 0, 1) := by decide +kernel
theorem dX5_two_5 : decode cX5_two 5 = .ok (.getfield 46, 3) := by decide +kernel
theorem dX5_two_8 : decode cX5_two 8 = .ok (.getfield 137, 3) := by decide +kernel
theorem dX5_two_11 : decode cX5_two 11 = .ok (.invokestatic 119, 3) := by decide +kernel
theorem dX5_two_14 : decode cX5_two 14 = .ok (.ireturn, 1) := by decide +kernel
set_option maxRecDepth 20000 in
theorem ggX5_book_X5_refresh : GoodIn wsX5_book wsX5_refresh := goodIn_r _ [10, 11, 12, 13, 14, 2, 15, 16, 17, 18, 19, 20, 21, 22, 23, 24, 25, 26, 27, 28, 29, 30, 31, 32, 33, 34, 35, 36, 37, 38, 39, 40, 41, 42, 43, 44, 45, 46, 47, 48, 49, 50, 51, 52, 53, 54, 55, 56, 57, 58, 59, 60, 61, 62, 63, 64, 65, 66, 67, 68, 69, 70, 71, 72, 73, 74, 75, 76, 77, 78, 79, 80, 81, 82, 83, 84, 85, 86, 87, 88, 89, 90, 91, 92, 93, 94, 95, 96, 97, 98, 99, 100, 101, 102, 103, 104, 105, 106, 107, 108, 109, 110, 111, 112, 113, 114, 115, 116, 117, 118, 119, 120, 121, 122, 123, 124, 125, 126, 127, 128, 129, 130, 131, 132, 133, 134, 135, 136, 142, 143, 144, 145, 146, 147, 148, 152, 153, 154, 155, 156, 157, 158, 159, 160, 161, 162, 163, 164, 165, 166, 167, 168, 169, 170, 171, 172, 149, 150, 151] (by decide +kernel) (by decide +kernel)
set_option maxRecDepth 20000 in
theorem gX5_book_X5_refresh : GoodIn wsX5_book (wsV RX5 113 RX5 yX5_refresh wsX5_refresh) := goodIn_app (goodIn_of _ (by decide +kernel)) ggX5_book_X5_refresh
set_option maxRecDepth 20000 in
theorem ggX5_book_X1_has : GoodIn wsX5_book wsX1_has := goodIn_r _ [140, 141, 154, 155, 156, 157, 158, 159, 160] (by decide +kernel) (by decide +kernel)
set_option maxRecDepth 20000 in
theorem gX5_book_X1_has : GoodIn wsX5_book (wsV RX5 83 RX1 yX1_has wsX1_has) := goodIn_app (goodIn_of _ (by decide +kernel)) ggX5_book_X1_has
theorem dX5_book_0 : decode cX5_book 0 = .ok (.aload_n 0, 1) := by decide +kernel
theorem dX5_book_1 : decode cX5_book 1 = .ok (.invokevirtual 113, 3) := by decide +kernel
theorem dX5_book_4 : decode cX5_book 4 = .ok (.aload_n 0, 1) := by decide +kernel
theorem dX5_book_5 : decode cX5_book 5 = .ok (.getfield 12, 3) := by decide +kernel
theorem dX5_book_8 : decode cX5_book 8 = .ok (.iload_n 1, 1) := by decide +kernel
theorem dX5_book_9 : decode cX5_book 9 = .ok (.invokevirtual 83, 3) := by decide +kernel
theorem dX5_book_12 : decode cX5_book 12 = .ok (.ifCond .eq 15, 3) := by decide +kernel
theorem dX5_book_15 : decode cX5_book 15 = .ok (.aload_n 0, 1) := by decide +kernel
theorem dX5_book_16 : decode cX5_book 16 = .ok (.getfield 46, 3) := by decide +kernel
theorem dX5_book_19 : decode cX5_book 19 = .ok (.getfield 137, 3) := by decide +kernel
theorem dX5_book_22 : decode cX5_book 22 = .ok (.ldc 123, 2) := by decide +kernel
theorem dX5_book_24 : decode cX5_book 24 = .ok (.if_icmp .lt 5, 3) := by decide +kernel
theorem dX5_book_27 : decode cX5_book 27 = .ok (.iconst (-1), 1) := by decide +kernel
theorem dX5_book_28 : decode cX5_book 28 = .ok (.ireturn, 1) := by decide +kernel
theorem dX5_book_29 : decode cX5_book 29 = .ok (.aload_n 0, 1) := by decide +kernel
theorem dX5_book_30 : decode cX5_book 30 = .ok (.getfield 46, 3) := by decide +kernel
theorem dX5_book_33 : decode cX5_book 33 = .ok (.getfield 140, 3) := by decide +kernel
theorem dX5_book_36 : decode cX5_book 36 = .ok (.iload_n 1, 1) := by decide +kernel
theorem dX5_book_37 : decode cX5_book 37 = .ok (.ishr, 1) := by decide +kernel
theorem dX5_book_38 : decode cX5_book 38 = .ok (.iconst 1, 1) := by decide +kernel
theorem dX5_book_39 : decode cX5_book 39 = .ok (.iand, 1) := by decide +kernel
theorem dX5_book_40 : decode cX5_book 40 = .ok (.ireturn, 1) := by decide +kernel
set_option maxRecDepth 20000 in
theorem ggX5_doubt_X1_has : GoodIn wsX5_doubt wsX1_has := goodIn_r _ [9, 10, 159, 160, 161, 162, 163, 164, 165] (by decide +kernel) (by decide +kernel)
set_option maxRecDepth 20000 in
theorem gX5_doubt_X1_has : GoodIn wsX5_doubt (wsV RX5 83 RX1 yX1_has wsX1_has) := goodIn_app (goodIn_of _ (by decide +kernel)) ggX5_doubt_X1_has
set_option maxRecDepth 20000 in
theorem ggX5_doubt_X5_isWithin : GoodIn wsX5_doubt wsX5_isWithin := goodIn_r _ [14] (by decide +kernel) (by decide +kernel)
set_option maxRecDepth 20000 in
theorem gX5_doubt_X5_isWithin : GoodIn wsX5_doubt (va_wsS RX5 86 yX5_isWithin wsX5_isWithin) := goodIn_app (goodIn_of _ (by decide +kernel)) ggX5_doubt_X5_isWithin
set_option maxRecDepth 20000 in
theorem ggX5_doubt_X5_refresh : GoodIn wsX5_doubt wsX5_refresh := goodIn_r _ [18, 19, 20, 21, 22, 2, 23, 24, 25, 26, 27, 28, 29, 30, 31, 32, 33, 34, 35, 36, 37, 38, 39, 40, 41, 42, 43, 44, 45, 46, 47, 48, 49, 50, 51, 52, 53, 54, 55, 56, 57, 8, 58, 59, 60, 61, 62, 63, 64, 65, 66, 67, 68, 69, 70, 71, 72, 73, 74, 75, 76, 77, 78, 79, 80, 81, 82, 83, 84, 85, 86, 87, 88, 89, 90, 91, 92, 93, 94, 95, 96, 97, 98, 99, 100, 101, 102, 103, 104, 105, 106, 107, 108, 109, 110, 111, 112, 113, 114, 115, 116, 117, 118, 119, 120, 121, 122, 123, 124, 125, 126, 127, 128, 129, 130, 131, 132, 133, 134, 135, 136, 137, 138, 139, 140, 141, 142, 143, 149, 150, 151, 152, 153, 154, 155, 166, 167, 159, 160, 161, 162, 163, 164, 165, 168, 169, 170, 171, 172, 173, 174, 175, 176, 177, 178, 179, 156, 157, 158] (by decide +kernel) (by decide +kernel)
set_option maxRecDepth 20000 in
theorem gX5_doubt_X5_refresh : GoodIn wsX5_doubt (wsV RX5 113 RX5 yX5_refresh wsX5_refresh) := goodIn_app (goodIn_of _ (by decide +kernel)) ggX5_doubt_X5_refresh
set_option maxRecDepth 20000 in
theorem ggX5_doubt_X0_leastWithMoved : GoodIn wsX5_doubt wsX0_leastWithMoved := goodIn_r _ [147, 134, 137, 136, 148, 99, 51, 100, 138, 78, 79, 26, 80, 30, 139, 140, 141, 132, 142, 143, 156, 157, 158, 168, 169, 170, 171, 172, 173, 174, 175, 176] (by decide +kernel) (by decide +kernel)
set_option maxRecDepth 20000 in
theorem gX5_doubt_X0_leastWithMoved : GoodIn wsX5_doubt (wsV RX5 143 RX0 yX0_leastWithMoved wsX0_leastWithMoved) := goodIn_app (goodIn_of _ (by decide +kernel)) ggX5_doubt_X0_leastWithMoved
theorem dX5_doubt_0 : decode cX5_doubt 0 = .ok (.aload_n 0, 1) := by decide +kernel
theorem dX5_doubt_1 : decode cX5_doubt 1 = .ok (.getfield 12, 3) := by decide +kernel
theorem dX5_doubt_4 : decode cX5_doubt 4 = .ok (.iload_n 1, 1) := by decide +kernel
theorem dX5_doubt_5 : decode cX5_doubt 5 = .ok (.invokevirtual 83, 3) := by decide +kernel
theorem dX5_doubt_8 : decode cX5_doubt 8 = .ok (.ifCond .eq 17, 3) := by decide +kernel
theorem dX5_doubt_11 : decode cX5_doubt 11 = .ok (.iload_n 1, 1) := by decide +kernel
theorem dX5_doubt_12 : decode cX5_doubt 12 = .ok (.ifCond .eq 13, 3) := by decide +kernel
theorem dX5_doubt_15 : decode cX5_doubt 15 = .ok (.iload_n 2, 1) := by decide +kernel
theorem dX5_doubt_16 : decode cX5_doubt 16 = .ok (.sipush 1000, 3) := by decide +kernel
theorem dX5_doubt_19 : decode cX5_doubt 19 = .ok (.invokestatic 86, 3) := by decide +kernel
theorem dX5_doubt_22 : decode cX5_doubt 22 = .ok (.ifCond .ne 5, 3) := by decide +kernel
theorem dX5_doubt_25 : decode cX5_doubt 25 = .ok (.iconst (-1), 1) := by decide +kernel
theorem dX5_doubt_26 : decode cX5_doubt 26 = .ok (.ireturn, 1) := by decide +kernel
theorem dX5_doubt_27 : decode cX5_doubt 27 = .ok (.aload_n 0, 1) := by decide +kernel
theorem dX5_doubt_28 : decode cX5_doubt 28 = .ok (.invokevirtual 113, 3) := by decide +kernel
theorem dX5_doubt_31 : decode cX5_doubt 31 = .ok (.aload_n 0, 1) := by decide +kernel
theorem dX5_doubt_32 : decode cX5_doubt 32 = .ok (.getfield 46, 3) := by decide +kernel
theorem dX5_doubt_35 : decode cX5_doubt 35 = .ok (.getfield 137, 3) := by decide +kernel
theorem dX5_doubt_38 : decode cX5_doubt 38 = .ok (.ldc 123, 2) := by decide +kernel
theorem dX5_doubt_40 : decode cX5_doubt 40 = .ok (.if_icmp .lt 5, 3) := by decide +kernel
theorem dX5_doubt_43 : decode cX5_doubt 43 = .ok (.iconst (-1), 1) := by decide +kernel
theorem dX5_doubt_44 : decode cX5_doubt 44 = .ok (.ireturn, 1) := by decide +kernel
theorem dX5_doubt_45 : decode cX5_doubt 45 = .ok (.aload_n 0, 1) := by decide +kernel
theorem dX5_doubt_46 : decode cX5_doubt 46 = .ok (.getfield 46, 3) := by decide +kernel
theorem dX5_doubt_49 : decode cX5_doubt 49 = .ok (.iload_n 1, 1) := by decide +kernel
theorem dX5_doubt_50 : decode cX5_doubt 50 = .ok (.invokevirtual 143, 3) := by decide +kernel
theorem dX5_doubt_53 : decode cX5_doubt 53 = .ok (.aload_n 0, 1) := by decide +kernel
theorem dX5_doubt_54 : decode cX5_doubt 54 = .ok (.getfield 46, 3) := by decide +kernel
theorem dX5_doubt_57 : decode cX5_doubt 57 = .ok (.getfield 137, 3) := by decide +kernel
theorem dX5_doubt_60 : decode cX5_doubt 60 = .ok (.iload_n 2, 1) := by decide +kernel
theorem dX5_doubt_61 : decode cX5_doubt 61 = .ok (.iadd, 1) := by decide +kernel
theorem dX5_doubt_62 : decode cX5_doubt 62 = .ok (.if_icmp .gt 7, 3) := by decide +kernel
theorem dX5_doubt_65 : decode cX5_doubt 65 = .ok (.iconst 1, 1) := by decide +kernel
theorem dX5_doubt_66 : decode cX5_doubt 66 = .ok (.goto 4, 3) := by decide +kernel
theorem dX5_doubt_69 : decode cX5_doubt 69 = .ok (.iconst 0, 1) := by decide +kernel
theorem dX5_doubt_70 : decode cX5_doubt 70 = .ok (.ireturn, 1) := by decide +kernel
theorem dX5_about_0 : decode cX5_about 0 = .ok (.iload_n 1, 1) := by decide +kernel
theorem dX5_about_1 : decode cX5_about 1 = .ok (.ifCond .ne 11, 3) := by decide +kernel
theorem dX5_about_4 : decode cX5_about 4 = .ok (.aload_n 0, 1) := by decide +kernel
theorem dX5_about_5 : decode cX5_about 5 = .ok (.getfield 12, 3) := by decide +kernel
theorem dX5_about_8 : decode cX5_about 8 = .ok (.getfield 61, 3) := by decide +kernel
theorem dX5_about_11 : decode cX5_about 11 = .ok (.ireturn, 1) := by decide +kernel
theorem dX5_about_12 : decode cX5_about 12 = .ok (.iload_n 1, 1) := by decide +kernel
theorem dX5_about_13 : decode cX5_about 13 = .ok (.iconst 1, 1) := by decide +kernel
theorem dX5_about_14 : decode cX5_about 14 = .ok (.if_icmp .lt 27, 3) := by decide +kernel
theorem dX5_about_17 : decode cX5_about 17 = .ok (.iload_n 1, 1) := by decide +kernel
theorem dX5_about_18 : decode cX5_about 18 = .ok (.aload_n 0, 1) := by decide +kernel
theorem dX5_about_19 : decode cX5_about 19 = .ok (.getfield 21, 3) := by decide +kernel
theorem dX5_about_22 : decode cX5_about 22 = .ok (.getfield 92, 3) := by decide +kernel
theorem dX5_about_25 : decode cX5_about 25 = .ok (.arraylength, 1) := by decide +kernel
theorem dX5_about_26 : decode cX5_about 26 = .ok (.if_icmp .gt 15, 3) := by decide +kernel
theorem dX5_about_29 : decode cX5_about 29 = .ok (.aload_n 0, 1) := by decide +kernel
theorem dX5_about_30 : decode cX5_about 30 = .ok (.getfield 21, 3) := by decide +kernel
theorem dX5_about_33 : decode cX5_about 33 = .ok (.getfield 92, 3) := by decide +kernel
theorem dX5_about_36 : decode cX5_about 36 = .ok (.iload_n 1, 1) := by decide +kernel
theorem dX5_about_37 : decode cX5_about 37 = .ok (.iconst 1, 1) := by decide +kernel
theorem dX5_about_38 : decode cX5_about 38 = .ok (.isub, 1) := by decide +kernel
theorem dX5_about_39 : decode cX5_about 39 = .ok (.iaload, 1) := by decide +kernel
theorem dX5_about_40 : decode cX5_about 40 = .ok (.ireturn, 1) := by decide +kernel
theorem dX5_about_41 : decode cX5_about 41 = .ok (.iload_n 1, 1) := by decide +kernel
theorem dX5_about_42 : decode cX5_about 42 = .ok (.bipush 7, 2) := by decide +kernel
theorem dX5_about_44 : decode cX5_about 44 = .ok (.if_icmp .ne 16, 3) := by decide +kernel
theorem dX5_about_47 : decode cX5_about 47 = .ok (.aload_n 0, 1) := by decide +kernel
theorem dX5_about_48 : decode cX5_about 48 = .ok (.getfield 50, 3) := by decide +kernel
theorem dX5_about_51 : decode cX5_about 51 = .ok (.ifCond .eq 7, 3) := by decide +kernel
theorem dX5_about_54 : decode cX5_about 54 = .ok (.iconst 1, 1) := by decide +kernel
theorem dX5_about_55 : decode cX5_about 55 = .ok (.goto 4, 3) := by decide +kernel
theorem dX5_about_58 : decode cX5_about 58 = .ok (.iconst 0, 1) := by decide +kernel
theorem dX5_about_59 : decode cX5_about 59 = .ok (.ireturn, 1) := by decide +kernel
theorem dX5_about_60 : decode cX5_about 60 = .ok (.iconst (-1), 1) := by decide +kernel
theorem dX5_about_61 : decode cX5_about 61 = .ok (.ireturn, 1) := by decide +kernel
set_option maxRecDepth 20000 in
theorem ggX5_areTwo_X1_has : GoodIn wsX5_areTwo wsX1_has := goodIn_r _ [6, 7, 15, 16, 17, 18, 19, 20, 21] (by decide +kernel) (by decide +kernel)
set_option maxRecDepth 20000 in
theorem gX5_areTwo_X1_has : GoodIn wsX5_areTwo (wsV RX5 83 RX1 yX1_has wsX1_has) := goodIn_app (goodIn_of _ (by decide +kernel)) ggX5_areTwo_X1_has
theorem dX5_areTwo_0 : decode cX5_areTwo 0 = .ok (.aload_n 0, 1) := by decide +kernel
theorem dX5_areTwo_1 : decode cX5_areTwo 1 = .ok (.getfield 12, 3) := by decide +kernel
theorem dX5_areTwo_4 : decode cX5_areTwo 4 = .ok (.iload_n 1, 1) := by decide +kernel
theorem dX5_areTwo_5 : decode cX5_areTwo 5 = .ok (.invokevirtual 83, 3) := by decide +kernel
theorem dX5_areTwo_8 : decode cX5_areTwo 8 = .ok (.ifCond .eq 23, 3) := by decide +kernel
theorem dX5_areTwo_11 : decode cX5_areTwo 11 = .ok (.aload_n 0, 1) := by decide +kernel
theorem dX5_areTwo_12 : decode cX5_areTwo 12 = .ok (.getfield 12, 3) := by decide +kernel
theorem dX5_areTwo_15 : decode cX5_areTwo 15 = .ok (.iload_n 2, 1) := by decide +kernel
theorem dX5_areTwo_16 : decode cX5_areTwo 16 = .ok (.invokevirtual 83, 3) := by decide +kernel
theorem dX5_areTwo_19 : decode cX5_areTwo 19 = .ok (.ifCond .eq 12, 3) := by decide +kernel
theorem dX5_areTwo_22 : decode cX5_areTwo 22 = .ok (.iload_n 1, 1) := by decide +kernel
theorem dX5_areTwo_23 : decode cX5_areTwo 23 = .ok (.iload_n 2, 1) := by decide +kernel
theorem dX5_areTwo_24 : decode cX5_areTwo 24 = .ok (.if_icmp .eq 7, 3) := by decide +kernel
theorem dX5_areTwo_27 : decode cX5_areTwo 27 = .ok (.iconst 1, 1) := by decide +kernel
theorem dX5_areTwo_28 : decode cX5_areTwo 28 = .ok (.goto 4, 3) := by decide +kernel
theorem dX5_areTwo_31 : decode cX5_areTwo 31 = .ok (.iconst 0, 1) := by decide +kernel
theorem dX5_areTwo_32 : decode cX5_areTwo 32 = .ok (.ireturn, 1) := by decide +kernel
set_option maxRecDepth 20000 in
theorem ggX5_refresh_X4_prepare : GoodIn wsX5_refresh wsX4_prepare := goodIn_r _ [10, 11, 12, 13, 14, 15, 16, 17, 18, 19, 20, 21, 22, 23, 24, 25, 26, 27, 28, 29, 30, 31, 32, 33, 34, 35, 36, 37, 38, 39, 40, 41, 42, 43, 44, 45, 46, 47, 48, 135, 136, 137, 138, 139, 140, 141, 142, 143, 144, 145, 146, 147, 148, 149, 150, 151, 152] (by decide +kernel) (by decide +kernel)
set_option maxRecDepth 20000 in
theorem gX5_refresh_X4_prepare : GoodIn wsX5_refresh (wsV RX5 146 RX4 yX4_prepare wsX4_prepare) := goodIn_app (goodIn_of _ (by decide +kernel)) ggX5_refresh_X4_prepare
set_option maxRecDepth 20000 in
theorem ggX5_refresh_X4_solve : GoodIn wsX5_refresh wsX4_solve := goodIn_r _ [52, 53, 54, 15, 55, 56, 57, 58, 9, 59, 13, 60, 61, 62, 63, 64, 65, 66, 67, 68, 69, 70, 71, 72, 73, 74, 75, 76, 77, 78, 79, 80, 81, 16, 82, 83, 34, 84, 85, 86, 87, 88, 89, 90, 91, 92, 93, 94, 95, 17, 96, 97, 98, 99, 100, 101, 102, 103, 104, 105, 106, 107, 108, 109, 110, 111, 112, 144, 145, 146, 147, 148, 149, 150, 151, 152, 153, 154, 155] (by decide +kernel) (by decide +kernel)
set_option maxRecDepth 20000 in
theorem gX5_refresh_X4_solve : GoodIn wsX5_refresh (wsV RX5 150 RX4 yX4_solve wsX4_solve) := goodIn_app (goodIn_of _ (by decide +kernel)) ggX5_refresh_X4_solve
set_option maxRecDepth 20000 in
theorem ggX5_refresh_X0_part : GoodIn wsX5_refresh wsX0_part := goodIn_r _ [117, 118, 119, 120, 121, 122, 62, 63, 9, 64, 13, 123, 124, 125, 116, 126, 127, 156, 157, 158, 144, 145, 146, 147, 148, 149, 150, 151, 152] (by decide +kernel) (by decide +kernel)
set_option maxRecDepth 20000 in
theorem gX5_refresh_X0_part : GoodIn wsX5_refresh (wsV RX5 153 RX0 yX0_part wsX0_part) := goodIn_app (goodIn_of _ (by decide +kernel)) ggX5_refresh_X0_part
theorem dX5_refresh_0 : decode cX5_refresh 0 = .ok (.aload_n 0, 1) := by decide +kernel
theorem dX5_refresh_1 : decode cX5_refresh 1 = .ok (.getfield 54, 3) := by decide +kernel
theorem dX5_refresh_4 : decode cX5_refresh 4 = .ok (.ifCond .ne 4, 3) := by decide +kernel
theorem dX5_refresh_7 : decode cX5_refresh 7 = .ok (.return_, 1) := by decide +kernel
theorem dX5_refresh_8 : decode cX5_refresh 8 = .ok (.aload_n 0, 1) := by decide +kernel
theorem dX5_refresh_9 : decode cX5_refresh 9 = .ok (.getfield 37, 3) := by decide +kernel
theorem dX5_refresh_12 : decode cX5_refresh 12 = .ok (.aload_n 0, 1) := by decide +kernel
theorem dX5_refresh_13 : decode cX5_refresh 13 = .ok (.getfield 21, 3) := by decide +kernel
theorem dX5_refresh_16 : decode cX5_refresh 16 = .ok (.aload_n 0, 1) := by decide +kernel
theorem dX5_refresh_17 : decode cX5_refresh 17 = .ok (.getfield 50, 3) := by decide +kernel
theorem dX5_refresh_20 : decode cX5_refresh 20 = .ok (.invokevirtual 146, 3) := by decide +kernel
theorem dX5_refresh_23 : decode cX5_refresh 23 = .ok (.aload_n 0, 1) := by decide +kernel
theorem dX5_refresh_24 : decode cX5_refresh 24 = .ok (.getfield 37, 3) := by decide +kernel
theorem dX5_refresh_27 : decode cX5_refresh 27 = .ok (.invokevirtual 150, 3) := by decide +kernel
theorem dX5_refresh_30 : decode cX5_refresh 30 = .ok (.aload_n 0, 1) := by decide +kernel
theorem dX5_refresh_31 : decode cX5_refresh 31 = .ok (.getfield 46, 3) := by decide +kernel
theorem dX5_refresh_34 : decode cX5_refresh 34 = .ok (.invokevirtual 153, 3) := by decide +kernel
theorem dX5_refresh_37 : decode cX5_refresh 37 = .ok (.aload_n 0, 1) := by decide +kernel
theorem dX5_refresh_38 : decode cX5_refresh 38 = .ok (.iconst 0, 1) := by decide +kernel
theorem dX5_refresh_39 : decode cX5_refresh 39 = .ok (.putfield 54, 3) := by decide +kernel
theorem dX5_refresh_42 : decode cX5_refresh 42 = .ok (.return_, 1) := by decide +kernel
theorem dX5_standOf_0 : decode cX5_standOf 0 = .ok (.iconst 2, 1) := by decide +kernel
theorem dX5_standOf_1 : decode cX5_standOf 1 = .ok (.iload_n 0, 1) := by decide +kernel
theorem dX5_standOf_2 : decode cX5_standOf 2 = .ok (.imul, 1) := by decide +kernel
theorem dX5_standOf_3 : decode cX5_standOf 3 = .ok (.iload_n 1, 1) := by decide +kernel
theorem dX5_standOf_4 : decode cX5_standOf 4 = .ok (.ifCond .eq 7, 3) := by decide +kernel
theorem dX5_standOf_7 : decode cX5_standOf 7 = .ok (.iconst 1, 1) := by decide +kernel
theorem dX5_standOf_8 : decode cX5_standOf 8 = .ok (.goto 4, 3) := by decide +kernel
theorem dX5_standOf_11 : decode cX5_standOf 11 = .ok (.iconst 0, 1) := by decide +kernel
theorem dX5_standOf_12 : decode cX5_standOf 12 = .ok (.iadd, 1) := by decide +kernel
theorem dX5_standOf_13 : decode cX5_standOf 13 = .ok (.ireturn, 1) := by decide +kernel
theorem dX5_costOrNone_0 : decode cX5_costOrNone 0 = .ok (.iload_n 0, 1) := by decide +kernel
theorem dX5_costOrNone_1 : decode cX5_costOrNone 1 = .ok (.ldc 123, 2) := by decide +kernel
theorem dX5_costOrNone_3 : decode cX5_costOrNone 3 = .ok (.if_icmp .ge 7, 3) := by decide +kernel
theorem dX5_costOrNone_6 : decode cX5_costOrNone 6 = .ok (.iload_n 0, 1) := by decide +kernel
theorem dX5_costOrNone_7 : decode cX5_costOrNone 7 = .ok (.goto 4, 3) := by decide +kernel
theorem dX5_costOrNone_10 : decode cX5_costOrNone 10 = .ok (.iconst (-1), 1) := by decide +kernel
theorem dX5_costOrNone_11 : decode cX5_costOrNone 11 = .ok (.ireturn, 1) := by decide +kernel
set_option maxRecDepth 20000 in
theorem ggX5_isMark_X5_isWithin : GoodIn wsX5_isMark wsX5_isWithin := goodIn_r _ [4] (by decide +kernel) (by decide +kernel)
set_option maxRecDepth 20000 in
theorem gX5_isMark_X5_isWithin : GoodIn wsX5_isMark (va_wsS RX5 86 yX5_isWithin wsX5_isWithin) := goodIn_app (goodIn_of _ (by decide +kernel)) ggX5_isMark_X5_isWithin
theorem dX5_isMark_0 : decode cX5_isMark 0 = .ok (.iload_n 0, 1) := by decide +kernel
theorem dX5_isMark_1 : decode cX5_isMark 1 = .ok (.bipush 99, 2) := by decide +kernel
theorem dX5_isMark_3 : decode cX5_isMark 3 = .ok (.invokestatic 86, 3) := by decide +kernel
theorem dX5_isMark_6 : decode cX5_isMark 6 = .ok (.ireturn, 1) := by decide +kernel
theorem dX5_isWithin_0 : decode cX5_isWithin 0 = .ok (.iload_n 0, 1) := by decide +kernel
theorem dX5_isWithin_1 : decode cX5_isWithin 1 = .ok (.ifCond .lt 12, 3) := by decide +kernel
theorem dX5_isWithin_4 : decode cX5_isWithin 4 = .ok (.iload_n 0, 1) := by decide +kernel
theorem dX5_isWithin_5 : decode cX5_isWithin 5 = .ok (.iload_n 1, 1) := by decide +kernel
theorem dX5_isWithin_6 : decode cX5_isWithin 6 = .ok (.if_icmp .gt 7, 3) := by decide +kernel
theorem dX5_isWithin_9 : decode cX5_isWithin 9 = .ok (.iconst 1, 1) := by decide +kernel
theorem dX5_isWithin_10 : decode cX5_isWithin 10 = .ok (.goto 4, 3) := by decide +kernel
theorem dX5_isWithin_13 : decode cX5_isWithin 13 = .ok (.iconst 0, 1) := by decide +kernel
theorem dX5_isWithin_14 : decode cX5_isWithin 14 = .ok (.ireturn, 1) := by decide +kernel
