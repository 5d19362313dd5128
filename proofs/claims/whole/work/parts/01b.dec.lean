theorem dX0_init_0 : decode cX0_init 0 = .ok (.aload_n 0, 1) := by decide +kernel
theorem dX0_init_1 : decode cX0_init 1 = .ok (.invokespecial 3, 3) := by decide +kernel
theorem dX0_init_4 : decode cX0_init 4 = .ok (.aload_n 0, 1) := by decide +kernel
theorem dX0_init_5 : decode cX0_init 5 = .ok (.aload_n 1, 1) := by decide +kernel
theorem dX0_init_6 : decode cX0_init 6 = .ok (.putfield 9, 3) := by decide +kernel
theorem dX0_init_9 : decode cX0_init 9 = .ok (.return_, 1) := by decide +kernel
set_option maxRecDepth 20000 in
theorem ggX0_part_X4_all : GoodIn wsX0_part wsX4_all := goodIn_r _ [9, 10, 20, 21, 22, 23, 24, 25, 26, 27, 28] (by decide +kernel) (by decide +kernel)
set_option maxRecDepth 20000 in
theorem gX0_part_X4_all : GoodIn wsX0_part (wsV RX0 23 RX4 yX4_all wsX4_all) := goodIn_app (goodIn_of _ (by decide +kernel)) ggX0_part_X4_all
set_option maxRecDepth 20000 in
theorem ggX0_part_X0_costOf : GoodIn wsX0_part wsX0_costOf := goodIn_r _ [15, 4, 16, 5, 6, 7, 8, 9, 10, 17, 18, 19, 20, 21, 22, 23, 24, 25, 26, 27, 28] (by decide +kernel) (by decide +kernel)
set_option maxRecDepth 20000 in
theorem gX0_part_X0_costOf : GoodIn wsX0_part (wsV RX0 29 RX0 yX0_costOf wsX0_costOf) := goodIn_app (goodIn_of _ (by decide +kernel)) ggX0_part_X0_costOf
theorem dX0_part_0 : decode cX0_part 0 = .ok (.aload_n 0, 1) := by decide +kernel
theorem dX0_part_1 : decode cX0_part 1 = .ok (.ldc 15, 2) := by decide +kernel
theorem dX0_part_3 : decode cX0_part 3 = .ok (.putfield 16, 3) := by decide +kernel
theorem dX0_part_6 : decode cX0_part 6 = .ok (.aload_n 0, 1) := by decide +kernel
theorem dX0_part_7 : decode cX0_part 7 = .ok (.iconst 0, 1) := by decide +kernel
theorem dX0_part_8 : decode cX0_part 8 = .ok (.putfield 20, 3) := by decide +kernel
theorem dX0_part_11 : decode cX0_part 11 = .ok (.iconst 2, 1) := by decide +kernel
theorem dX0_part_12 : decode cX0_part 12 = .ok (.istore_n 1, 1) := by decide +kernel
theorem dX0_part_13 : decode cX0_part 13 = .ok (.iload_n 1, 1) := by decide +kernel
theorem dX0_part_14 : decode cX0_part 14 = .ok (.aload_n 0, 1) := by decide +kernel
theorem dX0_part_15 : decode cX0_part 15 = .ok (.getfield 9, 3) := by decide +kernel
theorem dX0_part_18 : decode cX0_part 18 = .ok (.invokevirtual 23, 3) := by decide +kernel
theorem dX0_part_21 : decode cX0_part 21 = .ok (.if_icmp .gt 33, 3) := by decide +kernel
theorem dX0_part_24 : decode cX0_part 24 = .ok (.aload_n 0, 1) := by decide +kernel
theorem dX0_part_25 : decode cX0_part 25 = .ok (.iload_n 1, 1) := by decide +kernel
theorem dX0_part_26 : decode cX0_part 26 = .ok (.invokevirtual 29, 3) := by decide +kernel
theorem dX0_part_29 : decode cX0_part 29 = .ok (.istore_n 2, 1) := by decide +kernel
theorem dX0_part_30 : decode cX0_part 30 = .ok (.iload_n 2, 1) := by decide +kernel
theorem dX0_part_31 : decode cX0_part 31 = .ok (.aload_n 0, 1) := by decide +kernel
theorem dX0_part_32 : decode cX0_part 32 = .ok (.getfield 16, 3) := by decide +kernel
theorem dX0_part_35 : decode cX0_part 35 = .ok (.if_icmp .ge 13, 3) := by decide +kernel
theorem dX0_part_38 : decode cX0_part 38 = .ok (.aload_n 0, 1) := by decide +kernel
theorem dX0_part_39 : decode cX0_part 39 = .ok (.iload_n 2, 1) := by decide +kernel
theorem dX0_part_40 : decode cX0_part 40 = .ok (.putfield 16, 3) := by decide +kernel
theorem dX0_part_43 : decode cX0_part 43 = .ok (.aload_n 0, 1) := by decide +kernel
theorem dX0_part_44 : decode cX0_part 44 = .ok (.iload_n 1, 1) := by decide +kernel
theorem dX0_part_45 : decode cX0_part 45 = .ok (.putfield 20, 3) := by decide +kernel
theorem dX0_part_48 : decode cX0_part 48 = .ok (.iinc 1 2, 3) := by decide +kernel
theorem dX0_part_51 : decode cX0_part 51 = .ok (.goto (-38), 3) := by decide +kernel
theorem dX0_part_54 : decode cX0_part 54 = .ok (.return_, 1) := by decide +kernel
set_option maxRecDepth 20000 in
theorem ggX0_leastWithMoved_X4_all : GoodIn wsX0_leastWithMoved wsX4_all := goodIn_r _ [12, 13, 23, 24, 25, 26, 27, 28, 29, 30, 31] (by decide +kernel) (by decide +kernel)
set_option maxRecDepth 20000 in
theorem gX0_leastWithMoved_X4_all : GoodIn wsX0_leastWithMoved (wsV RX0 23 RX4 yX4_all wsX4_all) := goodIn_app (goodIn_of _ (by decide +kernel)) ggX0_leastWithMoved_X4_all
set_option maxRecDepth 20000 in
theorem ggX0_leastWithMoved_X0_costOf : GoodIn wsX0_leastWithMoved wsX0_costOf := goodIn_r _ [18, 2, 19, 8, 9, 10, 11, 12, 13, 20, 21, 22, 23, 24, 25, 26, 27, 28, 29, 30, 31] (by decide +kernel) (by decide +kernel)
set_option maxRecDepth 20000 in
theorem gX0_leastWithMoved_X0_costOf : GoodIn wsX0_leastWithMoved (wsV RX0 29 RX0 yX0_costOf wsX0_costOf) := goodIn_app (goodIn_of _ (by decide +kernel)) ggX0_leastWithMoved_X0_costOf
theorem dX0_leastWithMoved_0 : decode cX0_leastWithMoved 0 = .ok (.ldc 15, 2) := by decide +kernel
theorem dX0_leastWithMoved_2 : decode cX0_leastWithMoved 2 = .ok (.istore_n 2, 1) := by decide +kernel
theorem dX0_leastWithMoved_3 : decode cX0_leastWithMoved 3 = .ok (.iconst 2, 1) := by decide +kernel
theorem dX0_leastWithMoved_4 : decode cX0_leastWithMoved 4 = .ok (.istore_n 3, 1) := by decide +kernel
theorem dX0_leastWithMoved_5 : decode cX0_leastWithMoved 5 = .ok (.iload_n 3, 1) := by decide +kernel
theorem dX0_leastWithMoved_6 : decode cX0_leastWithMoved 6 = .ok (.aload_n 0, 1) := by decide +kernel
theorem dX0_leastWithMoved_7 : decode cX0_leastWithMoved 7 = .ok (.getfield 9, 3) := by decide +kernel
theorem dX0_leastWithMoved_10 : decode cX0_leastWithMoved 10 = .ok (.invokevirtual 23, 3) := by decide +kernel
theorem dX0_leastWithMoved_13 : decode cX0_leastWithMoved 13 = .ok (.if_icmp .gt 32, 3) := by decide +kernel
theorem dX0_leastWithMoved_16 : decode cX0_leastWithMoved 16 = .ok (.iload_n 3, 1) := by decide +kernel
theorem dX0_leastWithMoved_17 : decode cX0_leastWithMoved 17 = .ok (.aload_n 0, 1) := by decide +kernel
theorem dX0_leastWithMoved_18 : decode cX0_leastWithMoved 18 = .ok (.getfield 20, 3) := by decide +kernel
theorem dX0_leastWithMoved_21 : decode cX0_leastWithMoved 21 = .ok (.ixor, 1) := by decide +kernel
theorem dX0_leastWithMoved_22 : decode cX0_leastWithMoved 22 = .ok (.iload_n 1, 1) := by decide +kernel
theorem dX0_leastWithMoved_23 : decode cX0_leastWithMoved 23 = .ok (.ishr, 1) := by decide +kernel
theorem dX0_leastWithMoved_24 : decode cX0_leastWithMoved 24 = .ok (.iconst 1, 1) := by decide +kernel
theorem dX0_leastWithMoved_25 : decode cX0_leastWithMoved 25 = .ok (.iand, 1) := by decide +kernel
theorem dX0_leastWithMoved_26 : decode cX0_leastWithMoved 26 = .ok (.ifCond .eq 13, 3) := by decide +kernel
theorem dX0_leastWithMoved_29 : decode cX0_leastWithMoved 29 = .ok (.iload_n 2, 1) := by decide +kernel
theorem dX0_leastWithMoved_30 : decode cX0_leastWithMoved 30 = .ok (.aload_n 0, 1) := by decide +kernel
theorem dX0_leastWithMoved_31 : decode cX0_leastWithMoved 31 = .ok (.iload_n 3, 1) := by decide +kernel
theorem dX0_leastWithMoved_32 : decode cX0_leastWithMoved 32 = .ok (.invokevirtual 29, 3) := by decide +kernel
theorem dX0_leastWithMoved_35 : decode cX0_leastWithMoved 35 = .ok (.invokestatic 33, 3) := by decide +kernel
theorem dX0_leastWithMoved_38 : decode cX0_leastWithMoved 38 = .ok (.istore_n 2, 1) := by decide +kernel
theorem dX0_leastWithMoved_39 : decode cX0_leastWithMoved 39 = .ok (.iinc 3 2, 3) := by decide +kernel
theorem dX0_leastWithMoved_42 : decode cX0_leastWithMoved 42 = .ok (.goto (-37), 3) := by decide +kernel
theorem dX0_leastWithMoved_45 : decode cX0_leastWithMoved 45 = .ok (.iload_n 2, 1) := by decide +kernel
theorem dX0_leastWithMoved_46 : decode cX0_leastWithMoved 46 = .ok (.ireturn, 1) := by decide +kernel
set_option maxRecDepth 20000 in
theorem ggX0_costOf_X4_all : GoodIn wsX0_costOf wsX4_all := goodIn_r _ [7, 8, 12, 13, 14, 15, 16, 17, 18, 19, 20] (by decide +kernel) (by decide +kernel)
set_option maxRecDepth 20000 in
theorem gX0_costOf_X4_all : GoodIn wsX0_costOf (wsV RX0 23 RX4 yX4_all wsX4_all) := goodIn_app (goodIn_of _ (by decide +kernel)) ggX0_costOf_X4_all
theorem dX0_costOf_0 : decode cX0_costOf 0 = .ok (.aload_n 0, 1) := by decide +kernel
theorem dX0_costOf_1 : decode cX0_costOf 1 = .ok (.getfield 9, 3) := by decide +kernel
theorem dX0_costOf_4 : decode cX0_costOf 4 = .ok (.getfield 39, 3) := by decide +kernel
theorem dX0_costOf_7 : decode cX0_costOf 7 = .ok (.iload_n 1, 1) := by decide +kernel
theorem dX0_costOf_8 : decode cX0_costOf 8 = .ok (.iaload, 1) := by decide +kernel
theorem dX0_costOf_9 : decode cX0_costOf 9 = .ok (.aload_n 0, 1) := by decide +kernel
theorem dX0_costOf_10 : decode cX0_costOf 10 = .ok (.getfield 9, 3) := by decide +kernel
theorem dX0_costOf_13 : decode cX0_costOf 13 = .ok (.getfield 39, 3) := by decide +kernel
theorem dX0_costOf_16 : decode cX0_costOf 16 = .ok (.aload_n 0, 1) := by decide +kernel
theorem dX0_costOf_17 : decode cX0_costOf 17 = .ok (.getfield 9, 3) := by decide +kernel
theorem dX0_costOf_20 : decode cX0_costOf 20 = .ok (.invokevirtual 23, 3) := by decide +kernel
theorem dX0_costOf_23 : decode cX0_costOf 23 = .ok (.iload_n 1, 1) := by decide +kernel
theorem dX0_costOf_24 : decode cX0_costOf 24 = .ok (.iconst (-1), 1) := by decide +kernel
theorem dX0_costOf_25 : decode cX0_costOf 25 = .ok (.ixor, 1) := by decide +kernel
theorem dX0_costOf_26 : decode cX0_costOf 26 = .ok (.iand, 1) := by decide +kernel
theorem dX0_costOf_27 : decode cX0_costOf 27 = .ok (.iaload, 1) := by decide +kernel
theorem dX0_costOf_28 : decode cX0_costOf 28 = .ok (.iadd, 1) := by decide +kernel
theorem dX0_costOf_29 : decode cX0_costOf 29 = .ok (.ireturn, 1) := by decide +kernel
theorem dX1_init_0 : decode cX1_init 0 = .ok (.aload_n 0, 1) := by decide +kernel
theorem dX1_init_1 : decode cX1_init 1 = .ok (.invokespecial 3, 3) := by decide +kernel
theorem dX1_init_4 : decode cX1_init 4 = .ok (.aload_n 0, 1) := by decide +kernel
theorem dX1_init_5 : decode cX1_init 5 = .ok (.bipush 18, 2) := by decide +kernel
theorem dX1_init_7 : decode cX1_init 7 = .ok (.newarray .int, 2) := by decide +kernel
theorem dX1_init_9 : decode cX1_init 9 = .ok (.putfield 9, 3) := by decide +kernel
theorem dX1_init_12 : decode cX1_init 12 = .ok (.aload_n 0, 1) := by decide +kernel
theorem dX1_init_13 : decode cX1_init 13 = .ok (.bipush 18, 2) := by decide +kernel
theorem dX1_init_15 : decode cX1_init 15 = .ok (.newarray .int, 2) := by decide +kernel
theorem dX1_init_17 : decode cX1_init 17 = .ok (.putfield 15, 3) := by decide +kernel
theorem dX1_init_20 : decode cX1_init 20 = .ok (.aload_n 0, 1) := by decide +kernel
theorem dX1_init_21 : decode cX1_init 21 = .ok (.bipush 18, 2) := by decide +kernel
theorem dX1_init_23 : decode cX1_init 23 = .ok (.newarray .int, 2) := by decide +kernel
theorem dX1_init_25 : decode cX1_init 25 = .ok (.putfield 18, 3) := by decide +kernel
theorem dX1_init_28 : decode cX1_init 28 = .ok (.aload_n 0, 1) := by decide +kernel
theorem dX1_init_29 : decode cX1_init 29 = .ok (.bipush 18, 2) := by decide +kernel
theorem dX1_init_31 : decode cX1_init 31 = .ok (.newarray .int, 2) := by decide +kernel
theorem dX1_init_33 : decode cX1_init 33 = .ok (.putfield 21, 3) := by decide +kernel
theorem dX1_init_36 : decode cX1_init 36 = .ok (.aload_n 0, 1) := by decide +kernel
theorem dX1_init_37 : decode cX1_init 37 = .ok (.bipush 18, 2) := by decide +kernel
theorem dX1_init_39 : decode cX1_init 39 = .ok (.newarray .int, 2) := by decide +kernel
theorem dX1_init_41 : decode cX1_init 41 = .ok (.putfield 24, 3) := by decide +kernel
theorem dX1_init_44 : decode cX1_init 44 = .ok (.aload_n 0, 1) := by decide +kernel
theorem dX1_init_45 : decode cX1_init 45 = .ok (.bipush 27, 2) := by decide +kernel
theorem dX1_init_47 : decode cX1_init 47 = .ok (.newarray .int, 2) := by decide +kernel
theorem dX1_init_49 : decode cX1_init 49 = .ok (.putfield 27, 3) := by decide +kernel
theorem dX1_init_52 : decode cX1_init 52 = .ok (.return_, 1) := by decide +kernel
theorem dX1_add_0 : decode cX1_add 0 = .ok (.iconst 2, 1) := by decide +kernel
theorem dX1_add_1 : decode cX1_add 1 = .ok (.aload_n 0, 1) := by decide +kernel
theorem dX1_add_2 : decode cX1_add 2 = .ok (.getfield 30, 3) := by decide +kernel
theorem dX1_add_5 : decode cX1_add 5 = .ok (.imul, 1) := by decide +kernel
theorem dX1_add_6 : decode cX1_add 6 = .ok (.istore 5, 2) := by decide +kernel
theorem dX1_add_8 : decode cX1_add 8 = .ok (.aload_n 0, 1) := by decide +kernel
theorem dX1_add_9 : decode cX1_add 9 = .ok (.getfield 9, 3) := by decide +kernel
theorem dX1_add_12 : decode cX1_add 12 = .ok (.iload 5, 2) := by decide +kernel
theorem dX1_add_14 : decode cX1_add 14 = .ok (.iload_n 1, 1) := by decide +kernel
theorem dX1_add_15 : decode cX1_add 15 = .ok (.iastore, 1) := by decide +kernel
theorem dX1_add_16 : decode cX1_add 16 = .ok (.aload_n 0, 1) := by decide +kernel
theorem dX1_add_17 : decode cX1_add 17 = .ok (.getfield 15, 3) := by decide +kernel
theorem dX1_add_20 : decode cX1_add 20 = .ok (.iload 5, 2) := by decide +kernel
theorem dX1_add_22 : decode cX1_add 22 = .ok (.iload_n 2, 1) := by decide +kernel
theorem dX1_add_23 : decode cX1_add 23 = .ok (.iastore, 1) := by decide +kernel
theorem dX1_add_24 : decode cX1_add 24 = .ok (.aload_n 0, 1) := by decide +kernel
theorem dX1_add_25 : decode cX1_add 25 = .ok (.getfield 18, 3) := by decide +kernel
theorem dX1_add_28 : decode cX1_add 28 = .ok (.iload 5, 2) := by decide +kernel
theorem dX1_add_30 : decode cX1_add 30 = .ok (.iconst (-1), 1) := by decide +kernel
theorem dX1_add_31 : decode cX1_add 31 = .ok (.iastore, 1) := by decide +kernel
theorem dX1_add_32 : decode cX1_add 32 = .ok (.aload_n 0, 1) := by decide +kernel
theorem dX1_add_33 : decode cX1_add 33 = .ok (.getfield 9, 3) := by decide +kernel
theorem dX1_add_36 : decode cX1_add 36 = .ok (.iload 5, 2) := by decide +kernel
theorem dX1_add_38 : decode cX1_add 38 = .ok (.iconst 1, 1) := by decide +kernel
theorem dX1_add_39 : decode cX1_add 39 = .ok (.iadd, 1) := by decide +kernel
theorem dX1_add_40 : decode cX1_add 40 = .ok (.iload_n 3, 1) := by decide +kernel
theorem dX1_add_41 : decode cX1_add 41 = .ok (.iastore, 1) := by decide +kernel
theorem dX1_add_42 : decode cX1_add 42 = .ok (.aload_n 0, 1) := by decide +kernel
theorem dX1_add_43 : decode cX1_add 43 = .ok (.getfield 15, 3) := by decide +kernel
theorem dX1_add_46 : decode cX1_add 46 = .ok (.iload 5, 2) := by decide +kernel
theorem dX1_add_48 : decode cX1_add 48 = .ok (.iconst 1, 1) := by decide +kernel
theorem dX1_add_49 : decode cX1_add 49 = .ok (.iadd, 1) := by decide +kernel
theorem dX1_add_50 : decode cX1_add 50 = .ok (.iload 4, 2) := by decide +kernel
theorem dX1_add_52 : decode cX1_add 52 = .ok (.iastore, 1) := by decide +kernel
theorem dX1_add_53 : decode cX1_add 53 = .ok (.aload_n 0, 1) := by decide +kernel
theorem dX1_add_54 : decode cX1_add 54 = .ok (.getfield 18, 3) := by decide +kernel
theorem dX1_add_57 : decode cX1_add 57 = .ok (.iload 5, 2) := by decide +kernel
theorem dX1_add_59 : decode cX1_add 59 = .ok (.iconst 1, 1) := by decide +kernel
theorem dX1_add_60 : decode cX1_add 60 = .ok (.iadd, 1) := by decide +kernel
theorem dX1_add_61 : decode cX1_add 61 = .ok (.iconst (-1), 1) := by decide +kernel
theorem dX1_add_62 : decode cX1_add 62 = .ok (.iastore, 1) := by decide +kernel
theorem dX1_add_63 : decode cX1_add 63 = .ok (.aload_n 0, 1) := by decide +kernel
theorem dX1_add_64 : decode cX1_add 64 = .ok (.dup, 1) := by decide +kernel
theorem dX1_add_65 : decode cX1_add 65 = .ok (.getfield 30, 3) := by decide +kernel
theorem dX1_add_68 : decode cX1_add 68 = .ok (.iconst 1, 1) := by decide +kernel
theorem dX1_add_69 : decode cX1_add 69 = .ok (.iadd, 1) := by decide +kernel
theorem dX1_add_70 : decode cX1_add 70 = .ok (.putfield 30, 3) := by decide +kernel
theorem dX1_add_73 : decode cX1_add 73 = .ok (.aload_n 0, 1) := by decide +kernel
theorem dX1_add_74 : decode cX1_add 74 = .ok (.getfield 30, 3) := by decide +kernel
theorem dX1_add_77 : decode cX1_add 77 = .ok (.iconst 1, 1) := by decide +kernel
theorem dX1_add_78 : decode cX1_add 78 = .ok (.isub, 1) := by decide +kernel
theorem dX1_add_79 : decode cX1_add 79 = .ok (.ireturn, 1) := by decide +kernel
theorem dX1_has_0 : decode cX1_has 0 = .ok (.iload_n 1, 1) := by decide +kernel
theorem dX1_has_1 : decode cX1_has 1 = .ok (.ifCond .lt 15, 3) := by decide +kernel
theorem dX1_has_4 : decode cX1_has 4 = .ok (.iload_n 1, 1) := by decide +kernel
theorem dX1_has_5 : decode cX1_has 5 = .ok (.aload_n 0, 1) := by decide +kernel
theorem dX1_has_6 : decode cX1_has 6 = .ok (.getfield 30, 3) := by decide +kernel
theorem dX1_has_9 : decode cX1_has 9 = .ok (.if_icmp .ge 7, 3) := by decide +kernel
theorem dX1_has_12 : decode cX1_has 12 = .ok (.iconst 1, 1) := by decide +kernel
theorem dX1_has_13 : decode cX1_has 13 = .ok (.goto 4, 3) := by decide +kernel
theorem dX1_has_16 : decode cX1_has 16 = .ok (.iconst 0, 1) := by decide +kernel
theorem dX1_has_17 : decode cX1_has 17 = .ok (.ireturn, 1) := by decide +kernel
set_option maxRecDepth 20000 in
theorem ggX1_hasSide_X1_has : GoodIn wsX1_hasSide wsX1_has := goodIn_r _ [5, 6, 10, 11, 12, 13, 14, 15, 16] (by decide +kernel) (by decide +kernel)
set_option maxRecDepth 20000 in
theorem gX1_hasSide_X1_has : GoodIn wsX1_hasSide (wsV RX1 34 RX1 yX1_has wsX1_has) := goodIn_app (goodIn_of _ (by decide +kernel)) ggX1_hasSide_X1_has
set_option maxRecDepth 20000 in
theorem ggX1_hasSide_X5_isWithin : GoodIn wsX1_hasSide wsX5_isWithin := goodIn_r _ [9] (by decide +kernel) (by decide +kernel)
set_option maxRecDepth 20000 in
theorem gX1_hasSide_X5_isWithin_n38 : GoodIn wsX1_hasSide (wsX5_isWithin) := ggX1_hasSide_X5_isWithin
theorem dX1_hasSide_0 : decode cX1_hasSide 0 = .ok (.aload_n 0, 1) := by decide +kernel
theorem dX1_hasSide_1 : decode cX1_hasSide 1 = .ok (.iload_n 1, 1) := by decide +kernel
theorem dX1_hasSide_2 : decode cX1_hasSide 2 = .ok (.invokevirtual 34, 3) := by decide +kernel
theorem dX1_hasSide_5 : decode cX1_hasSide 5 = .ok (.ifCond .eq 15, 3) := by decide +kernel
theorem dX1_hasSide_8 : decode cX1_hasSide 8 = .ok (.iload_n 2, 1) := by decide +kernel
theorem dX1_hasSide_9 : decode cX1_hasSide 9 = .ok (.iconst 1, 1) := by decide +kernel
theorem dX1_hasSide_10 : decode cX1_hasSide 10 = .ok (.invokestatic 38, 3) := by decide +kernel
theorem dX1_hasSide_13 : decode cX1_hasSide 13 = .ok (.ifCond .eq 7, 3) := by decide +kernel
theorem dX1_hasSide_16 : decode cX1_hasSide 16 = .ok (.iconst 1, 1) := by decide +kernel
theorem dX1_hasSide_17 : decode cX1_hasSide 17 = .ok (.goto 4, 3) := by decide +kernel
theorem dX1_hasSide_20 : decode cX1_hasSide 20 = .ok (.iconst 0, 1) := by decide +kernel
theorem dX1_hasSide_21 : decode cX1_hasSide 21 = .ok (.ireturn, 1) := by decide +kernel
theorem dX1_stainsApart_0 : decode cX1_stainsApart 0 = .ok (.iconst 0, 1) := by decide +kernel
theorem dX1_stainsApart_1 : decode cX1_stainsApart 1 = .ok (.istore_n 3, 1) := by decide +kernel
theorem dX1_stainsApart_2 : decode cX1_stainsApart 2 = .ok (.iconst 0, 1) := by decide +kernel
theorem dX1_stainsApart_3 : decode cX1_stainsApart 3 = .ok (.istore 4, 2) := by decide +kernel
theorem dX1_stainsApart_5 : decode cX1_stainsApart 5 = .ok (.iload 4, 2) := by decide +kernel
theorem dX1_stainsApart_7 : decode cX1_stainsApart 7 = .ok (.iconst 3, 1) := by decide +kernel
theorem dX1_stainsApart_8 : decode cX1_stainsApart 8 = .ok (.if_icmp .ge 38, 3) := by decide +kernel
theorem dX1_stainsApart_11 : decode cX1_stainsApart 11 = .ok (.iload_n 3, 1) := by decide +kernel
theorem dX1_stainsApart_12 : decode cX1_stainsApart 12 = .ok (.aload_n 0, 1) := by decide +kernel
theorem dX1_stainsApart_13 : decode cX1_stainsApart 13 = .ok (.getfield 27, 3) := by decide +kernel
theorem dX1_stainsApart_16 : decode cX1_stainsApart 16 = .ok (.iconst 3, 1) := by decide +kernel
theorem dX1_stainsApart_17 : decode cX1_stainsApart 17 = .ok (.iload_n 1, 1) := by decide +kernel
theorem dX1_stainsApart_18 : decode cX1_stainsApart 18 = .ok (.imul, 1) := by decide +kernel
theorem dX1_stainsApart_19 : decode cX1_stainsApart 19 = .ok (.iload 4, 2) := by decide +kernel
theorem dX1_stainsApart_21 : decode cX1_stainsApart 21 = .ok (.iadd, 1) := by decide +kernel
theorem dX1_stainsApart_22 : decode cX1_stainsApart 22 = .ok (.iaload, 1) := by decide +kernel
theorem dX1_stainsApart_23 : decode cX1_stainsApart 23 = .ok (.aload_n 0, 1) := by decide +kernel
theorem dX1_stainsApart_24 : decode cX1_stainsApart 24 = .ok (.getfield 27, 3) := by decide +kernel
theorem dX1_stainsApart_27 : decode cX1_stainsApart 27 = .ok (.iconst 3, 1) := by decide +kernel
theorem dX1_stainsApart_28 : decode cX1_stainsApart 28 = .ok (.iload_n 2, 1) := by decide +kernel
theorem dX1_stainsApart_29 : decode cX1_stainsApart 29 = .ok (.imul, 1) := by decide +kernel
theorem dX1_stainsApart_30 : decode cX1_stainsApart 30 = .ok (.iload 4, 2) := by decide +kernel
theorem dX1_stainsApart_32 : decode cX1_stainsApart 32 = .ok (.iadd, 1) := by decide +kernel
theorem dX1_stainsApart_33 : decode cX1_stainsApart 33 = .ok (.iaload, 1) := by decide +kernel
theorem dX1_stainsApart_34 : decode cX1_stainsApart 34 = .ok (.isub, 1) := by decide +kernel
theorem dX1_stainsApart_35 : decode cX1_stainsApart 35 = .ok (.invokestatic 42, 3) := by decide +kernel
theorem dX1_stainsApart_38 : decode cX1_stainsApart 38 = .ok (.iadd, 1) := by decide +kernel
theorem dX1_stainsApart_39 : decode cX1_stainsApart 39 = .ok (.istore_n 3, 1) := by decide +kernel
theorem dX1_stainsApart_40 : decode cX1_stainsApart 40 = .ok (.iinc 4 1, 3) := by decide +kernel
theorem dX1_stainsApart_43 : decode cX1_stainsApart 43 = .ok (.goto (-38), 3) := by decide +kernel
theorem dX1_stainsApart_46 : decode cX1_stainsApart 46 = .ok (.iload_n 3, 1) := by decide +kernel
theorem dX1_stainsApart_47 : decode cX1_stainsApart 47 = .ok (.ireturn, 1) := by decide +kernel
theorem dX2_init_0 : decode cX2_init 0 = .ok (.aload_n 0, 1) := by decide +kernel
theorem dX2_init_1 : decode cX2_init 1 = .ok (.invokespecial 3, 3) := by decide +kernel
theorem dX2_init_4 : decode cX2_init 4 = .ok (.aload_n 0, 1) := by decide +kernel
theorem dX2_init_5 : decode cX2_init 5 = .ok (.bipush 9, 2) := by decide +kernel
theorem dX2_init_7 : decode cX2_init 7 = .ok (.newarray .int, 2) := by decide +kernel
theorem dX2_init_9 : decode cX2_init 9 = .ok (.putfield 9, 3) := by decide +kernel
theorem dX2_init_12 : decode cX2_init 12 = .ok (.aload_n 0, 1) := by decide +kernel
theorem dX2_init_13 : decode cX2_init 13 = .ok (.bipush 9, 2) := by decide +kernel
theorem dX2_init_15 : decode cX2_init 15 = .ok (.newarray .int, 2) := by decide +kernel
theorem dX2_init_17 : decode cX2_init 17 = .ok (.putfield 15, 3) := by decide +kernel
theorem dX2_init_20 : decode cX2_init 20 = .ok (.aload_n 0, 1) := by decide +kernel
theorem dX2_init_21 : decode cX2_init 21 = .ok (.bipush 9, 2) := by decide +kernel
theorem dX2_init_23 : decode cX2_init 23 = .ok (.newarray .int, 2) := by decide +kernel
theorem dX2_init_25 : decode cX2_init 25 = .ok (.putfield 18, 3) := by decide +kernel
theorem dX2_init_28 : decode cX2_init 28 = .ok (.return_, 1) := by decide +kernel
set_option maxRecDepth 20000 in
theorem ggX2_putAhead_X2_withBit : GoodIn wsX2_putAhead wsX2_withBit := goodIn_r _ [5] (by decide +kernel) (by decide +kernel)
set_option maxRecDepth 20000 in
theorem gX2_putAhead_X2_withBit : GoodIn wsX2_putAhead (va_wsS RX2 21 yX2_withBit wsX2_withBit) := goodIn_app (goodIn_of _ (by decide +kernel)) ggX2_putAhead_X2_withBit
theorem dX2_putAhead_0 : decode cX2_putAhead 0 = .ok (.aload_n 0, 1) := by decide +kernel
theorem dX2_putAhead_1 : decode cX2_putAhead 1 = .ok (.getfield 9, 3) := by decide +kernel
theorem dX2_putAhead_4 : decode cX2_putAhead 4 = .ok (.iload_n 1, 1) := by decide +kernel
theorem dX2_putAhead_5 : decode cX2_putAhead 5 = .ok (.aload_n 0, 1) := by decide +kernel
theorem dX2_putAhead_6 : decode cX2_putAhead 6 = .ok (.getfield 9, 3) := by decide +kernel
theorem dX2_putAhead_9 : decode cX2_putAhead 9 = .ok (.iload_n 1, 1) := by decide +kernel
theorem dX2_putAhead_10 : decode cX2_putAhead 10 = .ok (.iaload, 1) := by decide +kernel
theorem dX2_putAhead_11 : decode cX2_putAhead 11 = .ok (.iload_n 2, 1) := by decide +kernel
theorem dX2_putAhead_12 : decode cX2_putAhead 12 = .ok (.iload_n 3, 1) := by decide +kernel
theorem dX2_putAhead_13 : decode cX2_putAhead 13 = .ok (.invokestatic 21, 3) := by decide +kernel
theorem dX2_putAhead_16 : decode cX2_putAhead 16 = .ok (.iastore, 1) := by decide +kernel
theorem dX2_putAhead_17 : decode cX2_putAhead 17 = .ok (.return_, 1) := by decide +kernel
set_option maxRecDepth 20000 in
theorem ggX2_putJoined_X2_withBit : GoodIn wsX2_putJoined wsX2_withBit := goodIn_r _ [6] (by decide +kernel) (by decide +kernel)
set_option maxRecDepth 20000 in
theorem gX2_putJoined_X2_withBit : GoodIn wsX2_putJoined (va_wsS RX2 21 yX2_withBit wsX2_withBit) := goodIn_app (goodIn_of _ (by decide +kernel)) ggX2_putJoined_X2_withBit
theorem dX2_putJoined_0 : decode cX2_putJoined 0 = .ok (.aload_n 0, 1) := by decide +kernel
theorem dX2_putJoined_1 : decode cX2_putJoined 1 = .ok (.getfield 15, 3) := by decide +kernel
theorem dX2_putJoined_4 : decode cX2_putJoined 4 = .ok (.iload_n 1, 1) := by decide +kernel
theorem dX2_putJoined_5 : decode cX2_putJoined 5 = .ok (.aload_n 0, 1) := by decide +kernel
theorem dX2_putJoined_6 : decode cX2_putJoined 6 = .ok (.getfield 15, 3) := by decide +kernel
theorem dX2_putJoined_9 : decode cX2_putJoined 9 = .ok (.iload_n 1, 1) := by decide +kernel
theorem dX2_putJoined_10 : decode cX2_putJoined 10 = .ok (.iaload, 1) := by decide +kernel
theorem dX2_putJoined_11 : decode cX2_putJoined 11 = .ok (.iload_n 2, 1) := by decide +kernel
theorem dX2_putJoined_12 : decode cX2_putJoined 12 = .ok (.iload_n 3, 1) := by decide +kernel
theorem dX2_putJoined_13 : decode cX2_putJoined 13 = .ok (.invokestatic 21, 3) := by decide +kernel
theorem dX2_putJoined_16 : decode cX2_putJoined 16 = .ok (.iastore, 1) := by decide +kernel
theorem dX2_putJoined_17 : decode cX2_putJoined 17 = .ok (.aload_n 0, 1) := by decide +kernel
theorem dX2_putJoined_18 : decode cX2_putJoined 18 = .ok (.getfield 18, 3) := by decide +kernel
theorem dX2_putJoined_21 : decode cX2_putJoined 21 = .ok (.iload_n 2, 1) := by decide +kernel
theorem dX2_putJoined_22 : decode cX2_putJoined 22 = .ok (.aload_n 0, 1) := by decide +kernel
theorem dX2_putJoined_23 : decode cX2_putJoined 23 = .ok (.getfield 18, 3) := by decide +kernel
theorem dX2_putJoined_26 : decode cX2_putJoined 26 = .ok (.iload_n 2, 1) := by decide +kernel
theorem dX2_putJoined_27 : decode cX2_putJoined 27 = .ok (.iaload, 1) := by decide +kernel
theorem dX2_putJoined_28 : decode cX2_putJoined 28 = .ok (.iload_n 1, 1) := by decide +kernel
theorem dX2_putJoined_29 : decode cX2_putJoined 29 = .ok (.iload_n 3, 1) := by decide +kernel
theorem dX2_putJoined_30 : decode cX2_putJoined 30 = .ok (.invokestatic 21, 3) := by decide +kernel
theorem dX2_putJoined_33 : decode cX2_putJoined 33 = .ok (.iastore, 1) := by decide +kernel
theorem dX2_putJoined_34 : decode cX2_putJoined 34 = .ok (.return_, 1) := by decide +kernel
theorem dX2_mayComeAfter_0 : decode cX2_mayComeAfter 0 = .ok (.aload_n 0, 1) := by decide +kernel
theorem dX2_mayComeAfter_1 : decode cX2_mayComeAfter 1 = .ok (.getfield 9, 3) := by decide +kernel
theorem dX2_mayComeAfter_4 : decode cX2_mayComeAfter 4 = .ok (.iload_n 1, 1) := by decide +kernel
theorem dX2_mayComeAfter_5 : decode cX2_mayComeAfter 5 = .ok (.iaload, 1) := by decide +kernel
theorem dX2_mayComeAfter_6 : decode cX2_mayComeAfter 6 = .ok (.aload_n 0, 1) := by decide +kernel
theorem dX2_mayComeAfter_7 : decode cX2_mayComeAfter 7 = .ok (.getfield 15, 3) := by decide +kernel
theorem dX2_mayComeAfter_10 : decode cX2_mayComeAfter 10 = .ok (.iload_n 1, 1) := by decide +kernel
theorem dX2_mayComeAfter_11 : decode cX2_mayComeAfter 11 = .ok (.iaload, 1) := by decide +kernel
theorem dX2_mayComeAfter_12 : decode cX2_mayComeAfter 12 = .ok (.ior, 1) := by decide +kernel
theorem dX2_mayComeAfter_13 : decode cX2_mayComeAfter 13 = .ok (.iload_n 2, 1) := by decide +kernel
theorem dX2_mayComeAfter_14 : decode cX2_mayComeAfter 14 = .ok (.iand, 1) := by decide +kernel
theorem dX2_mayComeAfter_15 : decode cX2_mayComeAfter 15 = .ok (.ifCond .ne 7, 3) := by decide +kernel
theorem dX2_mayComeAfter_18 : decode cX2_mayComeAfter 18 = .ok (.iconst 1, 1) := by decide +kernel
theorem dX2_mayComeAfter_19 : decode cX2_mayComeAfter 19 = .ok (.goto 4, 3) := by decide +kernel
theorem dX2_mayComeAfter_22 : decode cX2_mayComeAfter 22 = .ok (.iconst 0, 1) := by decide +kernel
theorem dX2_mayComeAfter_23 : decode cX2_mayComeAfter 23 = .ok (.ireturn, 1) := by decide +kernel
set_option maxRecDepth 20000 in
theorem ggX2_neighboursOf_J6_bitCount_0f7a4 : GoodIn wsX2_neighboursOf wsJ6_bitCount_0f7a4 := goodIn_r _ [5, 6, 7, 8] (by decide +kernel) (by decide +kernel)
set_option maxRecDepth 20000 in
theorem gX2_neighboursOf_J6_bitCount_0f7a4 : GoodIn wsX2_neighboursOf (va_wsS RX2 25 yJ6_bitCount_0f7a4 wsJ6_bitCount_0f7a4) := goodIn_app (goodIn_of _ (by decide +kernel)) ggX2_neighboursOf_J6_bitCount_0f7a4
theorem dX2_neighboursOf_0 : decode cX2_neighboursOf 0 = .ok (.aload_n 0, 1) := by decide +kernel
theorem dX2_neighboursOf_1 : decode cX2_neighboursOf 1 = .ok (.getfield 18, 3) := by decide +kernel
theorem dX2_neighboursOf_4 : decode cX2_neighboursOf 4 = .ok (.iload_n 1, 1) := by decide +kernel
theorem dX2_neighboursOf_5 : decode cX2_neighboursOf 5 = .ok (.iaload, 1) := by decide +kernel
theorem dX2_neighboursOf_6 : decode cX2_neighboursOf 6 = .ok (.iload_n 2, 1) := by decide +kernel
theorem dX2_neighboursOf_7 : decode cX2_neighboursOf 7 = .ok (.iand, 1) := by decide +kernel
theorem dX2_neighboursOf_8 : decode cX2_neighboursOf 8 = .ok (.istore_n 3, 1) := by decide +kernel
theorem dX2_neighboursOf_9 : decode cX2_neighboursOf 9 = .ok (.iload_n 3, 1) := by decide +kernel
theorem dX2_neighboursOf_10 : decode cX2_neighboursOf 10 = .ok (.ifCond .ne 5, 3) := by decide +kernel
theorem dX2_neighboursOf_13 : decode cX2_neighboursOf 13 = .ok (.iload_n 2, 1) := by decide +kernel
theorem dX2_neighboursOf_14 : decode cX2_neighboursOf 14 = .ok (.ireturn, 1) := by decide +kernel
theorem dX2_neighboursOf_15 : decode cX2_neighboursOf 15 = .ok (.iload_n 3, 1) := by decide +kernel
theorem dX2_neighboursOf_16 : decode cX2_neighboursOf 16 = .ok (.invokestatic 25, 3) := by decide +kernel
theorem dX2_neighboursOf_19 : decode cX2_neighboursOf 19 = .ok (.iconst 1, 1) := by decide +kernel
theorem dX2_neighboursOf_20 : decode cX2_neighboursOf 20 = .ok (.if_icmp .ne 7, 3) := by decide +kernel
theorem dX2_neighboursOf_23 : decode cX2_neighboursOf 23 = .ok (.iload_n 3, 1) := by decide +kernel
theorem dX2_neighboursOf_24 : decode cX2_neighboursOf 24 = .ok (.goto 4, 3) := by decide +kernel
theorem dX2_neighboursOf_27 : decode cX2_neighboursOf 27 = .ok (.iconst 0, 1) := by decide +kernel
theorem dX2_neighboursOf_28 : decode cX2_neighboursOf 28 = .ok (.ireturn, 1) := by decide +kernel
theorem dX2_withBit_0 : decode cX2_withBit 0 = .ok (.iload_n 2, 1) := by decide +kernel
theorem dX2_withBit_1 : decode cX2_withBit 1 = .ok (.ifCond .eq 11, 3) := by decide +kernel
theorem dX2_withBit_4 : decode cX2_withBit 4 = .ok (.iload_n 0, 1) := by decide +kernel
theorem dX2_withBit_5 : decode cX2_withBit 5 = .ok (.iconst 1, 1) := by decide +kernel
theorem dX2_withBit_6 : decode cX2_withBit 6 = .ok (.iload_n 1, 1) := by decide +kernel
theorem dX2_withBit_7 : decode cX2_withBit 7 = .ok (.ishl, 1) := by decide +kernel
theorem dX2_withBit_8 : decode cX2_withBit 8 = .ok (.ior, 1) := by decide +kernel
theorem dX2_withBit_9 : decode cX2_withBit 9 = .ok (.goto 10, 3) := by decide +kernel
theorem dX2_withBit_12 : decode cX2_withBit 12 = .ok (.iload_n 0, 1) := by decide +kernel
theorem dX2_withBit_13 : decode cX2_withBit 13 = .ok (.iconst 1, 1) := by decide +kernel
theorem dX2_withBit_14 : decode cX2_withBit 14 = .ok (.iload_n 1, 1) := by decide +kernel
theorem dX2_withBit_15 : decode cX2_withBit 15 = .ok (.ishl, 1) := by decide +kernel
theorem dX2_withBit_16 : decode cX2_withBit 16 = .ok (.iconst (-1), 1) := by decide +kernel
theorem dX2_withBit_17 : decode cX2_withBit 17 = .ok (.ixor, 1) := by decide +kernel
theorem dX2_withBit_18 : decode cX2_withBit 18 = .ok (.iand, 1) := by decide +kernel
theorem dX2_withBit_19 : decode cX2_withBit 19 = .ok (.ireturn, 1) := by decide +kernel
theorem dX3_init_0 : decode cX3_init 0 = .ok (.aload_n 0, 1) := by decide +kernel
theorem dX3_init_1 : decode cX3_init 1 = .ok (.invokespecial 3, 3) := by decide +kernel
theorem dX3_init_4 : decode cX3_init 4 = .ok (.aload_n 0, 1) := by decide +kernel
theorem dX3_init_5 : decode cX3_init 5 = .ok (.bipush 6, 2) := by decide +kernel
theorem dX3_init_7 : decode cX3_init 7 = .ok (.newarray .int, 2) := by decide +kernel
theorem dX3_init_9 : decode cX3_init 9 = .ok (.dup, 1) := by decide +kernel
theorem dX3_init_10 : decode cX3_init 10 = .ok (.iconst 0, 1) := by decide +kernel
theorem dX3_init_11 : decode cX3_init 11 = .ok (.iconst 1, 1) := by decide +kernel
theorem dX3_init_12 : decode cX3_init 12 = .ok (.iastore, 1) := by decide +kernel
theorem dX3_init_13 : decode cX3_init 13 = .ok (.dup, 1) := by decide +kernel
theorem dX3_init_14 : decode cX3_init 14 = .ok (.iconst 1, 1) := by decide +kernel
theorem dX3_init_15 : decode cX3_init 15 = .ok (.iconst 0, 1) := by decide +kernel
theorem dX3_init_16 : decode cX3_init 16 = .ok (.iastore, 1) := by decide +kernel
theorem dX3_init_17 : decode cX3_init 17 = .ok (.dup, 1) := by decide +kernel
theorem dX3_init_18 : decode cX3_init 18 = .ok (.iconst 2, 1) := by decide +kernel
theorem dX3_init_19 : decode cX3_init 19 = .ok (.bipush 20, 2) := by decide +kernel
theorem dX3_init_21 : decode cX3_init 21 = .ok (.iastore, 1) := by decide +kernel
theorem dX3_init_22 : decode cX3_init 22 = .ok (.dup, 1) := by decide +kernel
theorem dX3_init_23 : decode cX3_init 23 = .ok (.iconst 3, 1) := by decide +kernel
theorem dX3_init_24 : decode cX3_init 24 = .ok (.bipush 10, 2) := by decide +kernel
theorem dX3_init_26 : decode cX3_init 26 = .ok (.iastore, 1) := by decide +kernel
theorem dX3_init_27 : decode cX3_init 27 = .ok (.dup, 1) := by decide +kernel
theorem dX3_init_28 : decode cX3_init 28 = .ok (.iconst 4, 1) := by decide +kernel
theorem dX3_init_29 : decode cX3_init 29 = .ok (.bipush 30, 2) := by decide +kernel
theorem dX3_init_31 : decode cX3_init 31 = .ok (.iastore, 1) := by decide +kernel
theorem dX3_init_32 : decode cX3_init 32 = .ok (.dup, 1) := by decide +kernel
theorem dX3_init_33 : decode cX3_init 33 = .ok (.iconst 5, 1) := by decide +kernel
theorem dX3_init_34 : decode cX3_init 34 = .ok (.iconst 0, 1) := by decide +kernel
theorem dX3_init_35 : decode cX3_init 35 = .ok (.iastore, 1) := by decide +kernel
theorem dX3_init_36 : decode cX3_init 36 = .ok (.putfield 9, 3) := by decide +kernel
theorem dX3_init_39 : decode cX3_init 39 = .ok (.aload_n 0, 1) := by decide +kernel
theorem dX3_init_40 : decode cX3_init 40 = .ok (.aload_n 1, 1) := by decide +kernel
theorem dX3_init_41 : decode cX3_init 41 = .ok (.putfield 15, 3) := by decide +kernel
theorem dX3_init_44 : decode cX3_init 44 = .ok (.return_, 1) := by decide +kernel
set_option maxRecDepth 20000 in
theorem ggX3_joinCost_X3_fullCost : GoodIn wsX3_joinCost wsX3_fullCost := goodIn_r _ [6, 7, 8, 9, 1, 10, 11, 12, 13, 14, 15, 16, 17, 18, 19, 20, 21, 22, 23, 28, 29, 30, 31, 32, 33, 34, 35, 36] (by decide +kernel) (by decide +kernel)
set_option maxRecDepth 20000 in
theorem gX3_joinCost_X3_fullCost : GoodIn wsX3_joinCost (wsV RX3 19 RX3 yX3_fullCost wsX3_fullCost) := goodIn_app (goodIn_of _ (by decide +kernel)) ggX3_joinCost_X3_fullCost
set_option maxRecDepth 20000 in
theorem ggX3_joinCost_X3_isOverGap : GoodIn wsX3_joinCost wsX3_isOverGap := goodIn_r _ [27, 1, 28, 29] (by decide +kernel) (by decide +kernel)
set_option maxRecDepth 20000 in
theorem gX3_joinCost_X3_isOverGap : GoodIn wsX3_joinCost (wsV RX3 23 RX3 yX3_isOverGap wsX3_isOverGap) := goodIn_app (goodIn_of _ (by decide +kernel)) ggX3_joinCost_X3_isOverGap
theorem dX3_joinCost_0 : decode cX3_joinCost 0 = .ok (.aload_n 0, 1) := by decide +kernel
theorem dX3_joinCost_1 : decode cX3_joinCost 1 = .ok (.iload_n 1, 1) := by decide +kernel
theorem dX3_joinCost_2 : decode cX3_joinCost 2 = .ok (.iload_n 2, 1) := by decide +kernel
theorem dX3_joinCost_3 : decode cX3_joinCost 3 = .ok (.invokevirtual 19, 3) := by decide +kernel
theorem dX3_joinCost_6 : decode cX3_joinCost 6 = .ok (.istore_n 3, 1) := by decide +kernel
theorem dX3_joinCost_7 : decode cX3_joinCost 7 = .ok (.aload_n 0, 1) := by decide +kernel
theorem dX3_joinCost_8 : decode cX3_joinCost 8 = .ok (.iload_n 3, 1) := by decide +kernel
theorem dX3_joinCost_9 : decode cX3_joinCost 9 = .ok (.invokevirtual 23, 3) := by decide +kernel
theorem dX3_joinCost_12 : decode cX3_joinCost 12 = .ok (.ifCond .eq 12, 3) := by decide +kernel
theorem dX3_joinCost_15 : decode cX3_joinCost 15 = .ok (.aload_n 0, 1) := by decide +kernel
theorem dX3_joinCost_16 : decode cX3_joinCost 16 = .ok (.getfield 9, 3) := by decide +kernel
theorem dX3_joinCost_19 : decode cX3_joinCost 19 = .ok (.iconst 5, 1) := by decide +kernel
theorem dX3_joinCost_20 : decode cX3_joinCost 20 = .ok (.iaload, 1) := by decide +kernel
theorem dX3_joinCost_21 : decode cX3_joinCost 21 = .ok (.goto 4, 3) := by decide +kernel
theorem dX3_joinCost_24 : decode cX3_joinCost 24 = .ok (.iload_n 3, 1) := by decide +kernel
theorem dX3_joinCost_25 : decode cX3_joinCost 25 = .ok (.ireturn, 1) := by decide +kernel
set_option maxRecDepth 20000 in
theorem ggX3_isMissing_X3_fullCost : GoodIn wsX3_isMissing wsX3_fullCost := goodIn_r _ [5, 6, 7, 8, 9, 10, 11, 12, 13, 14, 15, 16, 17, 18, 19, 20, 21, 22, 23, 28, 29, 30, 31, 32, 33, 34, 35, 36] (by decide +kernel) (by decide +kernel)
set_option maxRecDepth 20000 in
theorem gX3_isMissing_X3_fullCost : GoodIn wsX3_isMissing (wsV RX3 19 RX3 yX3_fullCost wsX3_fullCost) := goodIn_app (goodIn_of _ (by decide +kernel)) ggX3_isMissing_X3_fullCost
set_option maxRecDepth 20000 in
theorem ggX3_isMissing_X3_isOverGap : GoodIn wsX3_isMissing wsX3_isOverGap := goodIn_r _ [27, 9, 28, 29] (by decide +kernel) (by decide +kernel)
set_option maxRecDepth 20000 in
theorem gX3_isMissing_X3_isOverGap : GoodIn wsX3_isMissing (wsV RX3 23 RX3 yX3_isOverGap wsX3_isOverGap) := goodIn_app (goodIn_of _ (by decide +kernel)) ggX3_isMissing_X3_isOverGap
theorem dX3_isMissing_0 : decode cX3_isMissing 0 = .ok (.aload_n 0, 1) := by decide +kernel
theorem dX3_isMissing_1 : decode cX3_isMissing 1 = .ok (.aload_n 0, 1) := by decide +kernel
theorem dX3_isMissing_2 : decode cX3_isMissing 2 = .ok (.iload_n 1, 1) := by decide +kernel
theorem dX3_isMissing_3 : decode cX3_isMissing 3 = .ok (.iload_n 2, 1) := by decide +kernel
theorem dX3_isMissing_4 : decode cX3_isMissing 4 = .ok (.invokevirtual 19, 3) := by decide +kernel
theorem dX3_isMissing_7 : decode cX3_isMissing 7 = .ok (.invokevirtual 23, 3) := by decide +kernel
theorem dX3_isMissing_10 : decode cX3_isMissing 10 = .ok (.ireturn, 1) := by decide +kernel
theorem dX3_isOverGap_0 : decode cX3_isOverGap 0 = .ok (.aload_n 0, 1) := by decide +kernel
theorem dX3_isOverGap_1 : decode cX3_isOverGap 1 = .ok (.getfield 9, 3) := by decide +kernel
theorem dX3_isOverGap_4 : decode cX3_isOverGap 4 = .ok (.iconst 5, 1) := by decide +kernel
theorem dX3_isOverGap_5 : decode cX3_isOverGap 5 = .ok (.iaload, 1) := by decide +kernel
theorem dX3_isOverGap_6 : decode cX3_isOverGap 6 = .ok (.ifCond .le 17, 3) := by decide +kernel
theorem dX3_isOverGap_9 : decode cX3_isOverGap 9 = .ok (.iload_n 1, 1) := by decide +kernel
theorem dX3_isOverGap_10 : decode cX3_isOverGap 10 = .ok (.aload_n 0, 1) := by decide +kernel
theorem dX3_isOverGap_11 : decode cX3_isOverGap 11 = .ok (.getfield 9, 3) := by decide +kernel
theorem dX3_isOverGap_14 : decode cX3_isOverGap 14 = .ok (.iconst 5, 1) := by decide +kernel
theorem dX3_isOverGap_15 : decode cX3_isOverGap 15 = .ok (.iaload, 1) := by decide +kernel
theorem dX3_isOverGap_16 : decode cX3_isOverGap 16 = .ok (.if_icmp .le 7, 3) := by decide +kernel
theorem dX3_isOverGap_19 : decode cX3_isOverGap 19 = .ok (.iconst 1, 1) := by decide +kernel
theorem dX3_isOverGap_20 : decode cX3_isOverGap 20 = .ok (.goto 4, 3) := by decide +kernel
theorem dX3_isOverGap_23 : decode cX3_isOverGap 23 = .ok (.iconst 0, 1) := by decide +kernel
theorem dX3_isOverGap_24 : decode cX3_isOverGap 24 = .ok (.ireturn, 1) := by decide +kernel
set_option maxRecDepth 20000 in
theorem ggX3_fullCost_X1_stainsApart : GoodIn wsX3_fullCost wsX1_stainsApart := goodIn_r _ [16, 17, 18, 7, 8, 9, 21, 22, 23, 24, 25, 26, 27] (by decide +kernel) (by decide +kernel)
set_option maxRecDepth 20000 in
theorem gX3_fullCost_X1_stainsApart : GoodIn wsX3_fullCost (wsV RX3 50 RX1 yX1_stainsApart wsX1_stainsApart) := goodIn_app (goodIn_of _ (by decide +kernel)) ggX3_fullCost_X1_stainsApart
theorem dX3_fullCost_0 : decode cX3_fullCost 0 = .ok (.iload_n 1, 1) := by decide +kernel
theorem dX3_fullCost_1 : decode cX3_fullCost 1 = .ok (.iconst 1, 1) := by decide +kernel
theorem dX3_fullCost_2 : decode cX3_fullCost 2 = .ok (.ixor, 1) := by decide +kernel
theorem dX3_fullCost_3 : decode cX3_fullCost 3 = .ok (.istore_n 3, 1) := by decide +kernel
theorem dX3_fullCost_4 : decode cX3_fullCost 4 = .ok (.iload_n 2, 1) := by decide +kernel
theorem dX3_fullCost_5 : decode cX3_fullCost 5 = .ok (.istore 4, 2) := by decide +kernel
theorem dX3_fullCost_7 : decode cX3_fullCost 7 = .ok (.aload_n 0, 1) := by decide +kernel
theorem dX3_fullCost_8 : decode cX3_fullCost 8 = .ok (.getfield 15, 3) := by decide +kernel
theorem dX3_fullCost_11 : decode cX3_fullCost 11 = .ok (.getfield 27, 3) := by decide +kernel
theorem dX3_fullCost_14 : decode cX3_fullCost 14 = .ok (.iload 4, 2) := by decide +kernel
theorem dX3_fullCost_16 : decode cX3_fullCost 16 = .ok (.iaload, 1) := by decide +kernel
theorem dX3_fullCost_17 : decode cX3_fullCost 17 = .ok (.istore 5, 2) := by decide +kernel
theorem dX3_fullCost_19 : decode cX3_fullCost 19 = .ok (.aload_n 0, 1) := by decide +kernel
theorem dX3_fullCost_20 : decode cX3_fullCost 20 = .ok (.getfield 15, 3) := by decide +kernel
theorem dX3_fullCost_23 : decode cX3_fullCost 23 = .ok (.getfield 32, 3) := by decide +kernel
theorem dX3_fullCost_26 : decode cX3_fullCost 26 = .ok (.iload_n 3, 1) := by decide +kernel
theorem dX3_fullCost_27 : decode cX3_fullCost 27 = .ok (.iaload, 1) := by decide +kernel
theorem dX3_fullCost_28 : decode cX3_fullCost 28 = .ok (.istore 6, 2) := by decide +kernel
theorem dX3_fullCost_30 : decode cX3_fullCost 30 = .ok (.aload_n 0, 1) := by decide +kernel
theorem dX3_fullCost_31 : decode cX3_fullCost 31 = .ok (.getfield 9, 3) := by decide +kernel
theorem dX3_fullCost_34 : decode cX3_fullCost 34 = .ok (.iconst 0, 1) := by decide +kernel
theorem dX3_fullCost_35 : decode cX3_fullCost 35 = .ok (.iaload, 1) := by decide +kernel
theorem dX3_fullCost_36 : decode cX3_fullCost 36 = .ok (.iload 5, 2) := by decide +kernel
theorem dX3_fullCost_38 : decode cX3_fullCost 38 = .ok (.aload_n 0, 1) := by decide +kernel
theorem dX3_fullCost_39 : decode cX3_fullCost 39 = .ok (.getfield 15, 3) := by decide +kernel
theorem dX3_fullCost_42 : decode cX3_fullCost 42 = .ok (.getfield 35, 3) := by decide +kernel
theorem dX3_fullCost_45 : decode cX3_fullCost 45 = .ok (.iload_n 3, 1) := by decide +kernel
theorem dX3_fullCost_46 : decode cX3_fullCost 46 = .ok (.iaload, 1) := by decide +kernel
theorem dX3_fullCost_47 : decode cX3_fullCost 47 = .ok (.isub, 1) := by decide +kernel
theorem dX3_fullCost_48 : decode cX3_fullCost 48 = .ok (.invokestatic 38, 3) := by decide +kernel
theorem dX3_fullCost_51 : decode cX3_fullCost 51 = .ok (.imul, 1) := by decide +kernel
theorem dX3_fullCost_52 : decode cX3_fullCost 52 = .ok (.istore 7, 2) := by decide +kernel
theorem dX3_fullCost_54 : decode cX3_fullCost 54 = .ok (.iload 6, 2) := by decide +kernel
theorem dX3_fullCost_56 : decode cX3_fullCost 56 = .ok (.iconst (-1), 1) := by decide +kernel
theorem dX3_fullCost_57 : decode cX3_fullCost 57 = .ok (.if_icmp .eq 21, 3) := by decide +kernel
theorem dX3_fullCost_60 : decode cX3_fullCost 60 = .ok (.iload 6, 2) := by decide +kernel
theorem dX3_fullCost_62 : decode cX3_fullCost 62 = .ok (.iload 5, 2) := by decide +kernel
theorem dX3_fullCost_64 : decode cX3_fullCost 64 = .ok (.if_icmp .eq 14, 3) := by decide +kernel
theorem dX3_fullCost_67 : decode cX3_fullCost 67 = .ok (.iload 7, 2) := by decide +kernel
theorem dX3_fullCost_69 : decode cX3_fullCost 69 = .ok (.aload_n 0, 1) := by decide +kernel
theorem dX3_fullCost_70 : decode cX3_fullCost 70 = .ok (.getfield 9, 3) := by decide +kernel
theorem dX3_fullCost_73 : decode cX3_fullCost 73 = .ok (.iconst 2, 1) := by decide +kernel
theorem dX3_fullCost_74 : decode cX3_fullCost 74 = .ok (.iaload, 1) := by decide +kernel
theorem dX3_fullCost_75 : decode cX3_fullCost 75 = .ok (.iadd, 1) := by decide +kernel
theorem dX3_fullCost_76 : decode cX3_fullCost 76 = .ok (.istore 7, 2) := by decide +kernel
theorem dX3_fullCost_78 : decode cX3_fullCost 78 = .ok (.aload_n 0, 1) := by decide +kernel
theorem dX3_fullCost_79 : decode cX3_fullCost 79 = .ok (.getfield 15, 3) := by decide +kernel
theorem dX3_fullCost_82 : decode cX3_fullCost 82 = .ok (.getfield 44, 3) := by decide +kernel
theorem dX3_fullCost_85 : decode cX3_fullCost 85 = .ok (.iload_n 3, 1) := by decide +kernel
theorem dX3_fullCost_86 : decode cX3_fullCost 86 = .ok (.iaload, 1) := by decide +kernel
theorem dX3_fullCost_87 : decode cX3_fullCost 87 = .ok (.aload_n 0, 1) := by decide +kernel
theorem dX3_fullCost_88 : decode cX3_fullCost 88 = .ok (.getfield 15, 3) := by decide +kernel
theorem dX3_fullCost_91 : decode cX3_fullCost 91 = .ok (.getfield 47, 3) := by decide +kernel
theorem dX3_fullCost_94 : decode cX3_fullCost 94 = .ok (.iload 4, 2) := by decide +kernel
theorem dX3_fullCost_96 : decode cX3_fullCost 96 = .ok (.iaload, 1) := by decide +kernel
theorem dX3_fullCost_97 : decode cX3_fullCost 97 = .ok (.if_icmp .eq 14, 3) := by decide +kernel
theorem dX3_fullCost_100 : decode cX3_fullCost 100 = .ok (.iload 7, 2) := by decide +kernel
theorem dX3_fullCost_102 : decode cX3_fullCost 102 = .ok (.aload_n 0, 1) := by decide +kernel
theorem dX3_fullCost_103 : decode cX3_fullCost 103 = .ok (.getfield 9, 3) := by decide +kernel
theorem dX3_fullCost_106 : decode cX3_fullCost 106 = .ok (.iconst 3, 1) := by decide +kernel
theorem dX3_fullCost_107 : decode cX3_fullCost 107 = .ok (.iaload, 1) := by decide +kernel
theorem dX3_fullCost_108 : decode cX3_fullCost 108 = .ok (.iadd, 1) := by decide +kernel
theorem dX3_fullCost_109 : decode cX3_fullCost 109 = .ok (.istore 7, 2) := by decide +kernel
theorem dX3_fullCost_111 : decode cX3_fullCost 111 = .ok (.iload 7, 2) := by decide +kernel
theorem dX3_fullCost_113 : decode cX3_fullCost 113 = .ok (.aload_n 0, 1) := by decide +kernel
theorem dX3_fullCost_114 : decode cX3_fullCost 114 = .ok (.getfield 9, 3) := by decide +kernel
theorem dX3_fullCost_117 : decode cX3_fullCost 117 = .ok (.iconst 1, 1) := by decide +kernel
theorem dX3_fullCost_118 : decode cX3_fullCost 118 = .ok (.iaload, 1) := by decide +kernel
theorem dX3_fullCost_119 : decode cX3_fullCost 119 = .ok (.aload_n 0, 1) := by decide +kernel
theorem dX3_fullCost_120 : decode cX3_fullCost 120 = .ok (.getfield 15, 3) := by decide +kernel
theorem dX3_fullCost_123 : decode cX3_fullCost 123 = .ok (.iload_n 1, 1) := by decide +kernel
theorem dX3_fullCost_124 : decode cX3_fullCost 124 = .ok (.iconst 1, 1) := by decide +kernel
theorem dX3_fullCost_125 : decode cX3_fullCost 125 = .ok (.ishr, 1) := by decide +kernel
theorem dX3_fullCost_126 : decode cX3_fullCost 126 = .ok (.iload_n 2, 1) := by decide +kernel
theorem dX3_fullCost_127 : decode cX3_fullCost 127 = .ok (.iconst 1, 1) := by decide +kernel
theorem dX3_fullCost_128 : decode cX3_fullCost 128 = .ok (.ishr, 1) := by decide +kernel
theorem dX3_fullCost_129 : decode cX3_fullCost 129 = .ok (.invokevirtual 50, 3) := by decide +kernel
theorem dX3_fullCost_132 : decode cX3_fullCost 132 = .ok (.imul, 1) := by decide +kernel
theorem dX3_fullCost_133 : decode cX3_fullCost 133 = .ok (.iadd, 1) := by decide +kernel
theorem dX3_fullCost_134 : decode cX3_fullCost 134 = .ok (.ireturn, 1) := by decide +kernel
theorem dX4_init_0 : decode cX4_init 0 = .ok (.aload_n 0, 1) := by decide +kernel
theorem dX4_init_1 : decode cX4_init 1 = .ok (.invokespecial 3, 3) := by decide +kernel
theorem dX4_init_4 : decode cX4_init 4 = .ok (.aload_n 0, 1) := by decide +kernel
theorem dX4_init_5 : decode cX4_init 5 = .ok (.sipush 324, 3) := by decide +kernel
theorem dX4_init_8 : decode cX4_init 8 = .ok (.newarray .int, 2) := by decide +kernel
theorem dX4_init_10 : decode cX4_init 10 = .ok (.putfield 9, 3) := by decide +kernel
theorem dX4_init_13 : decode cX4_init 13 = .ok (.aload_n 0, 1) := by decide +kernel
theorem dX4_init_14 : decode cX4_init 14 = .ok (.sipush 9216, 3) := by decide +kernel
theorem dX4_init_17 : decode cX4_init 17 = .ok (.newarray .int, 2) := by decide +kernel
theorem dX4_init_19 : decode cX4_init 19 = .ok (.putfield 15, 3) := by decide +kernel
theorem dX4_init_22 : decode cX4_init 22 = .ok (.aload_n 0, 1) := by decide +kernel
theorem dX4_init_23 : decode cX4_init 23 = .ok (.sipush 512, 3) := by decide +kernel
theorem dX4_init_26 : decode cX4_init 26 = .ok (.newarray .int, 2) := by decide +kernel
theorem dX4_init_28 : decode cX4_init 28 = .ok (.putfield 18, 3) := by decide +kernel
theorem dX4_init_31 : decode cX4_init 31 = .ok (.aload_n 0, 1) := by decide +kernel
theorem dX4_init_32 : decode cX4_init 32 = .ok (.bipush 9, 2) := by decide +kernel
theorem dX4_init_34 : decode cX4_init 34 = .ok (.newarray .int, 2) := by decide +kernel
theorem dX4_init_36 : decode cX4_init 36 = .ok (.putfield 21, 3) := by decide +kernel
theorem dX4_init_39 : decode cX4_init 39 = .ok (.aload_n 0, 1) := by decide +kernel
theorem dX4_init_40 : decode cX4_init 40 = .ok (.aload_n 1, 1) := by decide +kernel
theorem dX4_init_41 : decode cX4_init 41 = .ok (.putfield 24, 3) := by decide +kernel
theorem dX4_init_44 : decode cX4_init 44 = .ok (.return_, 1) := by decide +kernel
set_option maxRecDepth 20000 in
theorem ggX4_prepare_X3_joinCost : GoodIn wsX4_prepare wsX3_joinCost := goodIn_r _ [12, 13, 14, 15, 16, 11, 17, 18, 19, 20, 21, 22, 23, 24, 25, 26, 27, 28, 29, 30, 31, 32, 33, 34, 35, 36, 37, 38, 39, 40, 41, 42, 43, 44, 45, 46, 47] (by decide +kernel) (by decide +kernel)
set_option maxRecDepth 20000 in
theorem gX4_prepare_X3_joinCost : GoodIn wsX4_prepare (wsV RX4 48 RX3 yX3_joinCost wsX3_joinCost) := goodIn_app (goodIn_of _ (by decide +kernel)) ggX4_prepare_X3_joinCost
theorem dX4_prepare_0 : decode cX4_prepare 0 = .ok (.aload_n 0, 1) := by decide +kernel
theorem dX4_prepare_1 : decode cX4_prepare 1 = .ok (.aload_n 1, 1) := by decide +kernel
theorem dX4_prepare_2 : decode cX4_prepare 2 = .ok (.getfield 28, 3) := by decide +kernel
theorem dX4_prepare_5 : decode cX4_prepare 5 = .ok (.getfield 34, 3) := by decide +kernel
theorem dX4_prepare_8 : decode cX4_prepare 8 = .ok (.putfield 40, 3) := by decide +kernel
theorem dX4_prepare_11 : decode cX4_prepare 11 = .ok (.aload_n 0, 1) := by decide +kernel
theorem dX4_prepare_12 : decode cX4_prepare 12 = .ok (.iload_n 2, 1) := by decide +kernel
theorem dX4_prepare_13 : decode cX4_prepare 13 = .ok (.ifCond .eq 12, 3) := by decide +kernel
theorem dX4_prepare_16 : decode cX4_prepare 16 = .ok (.aload_n 1, 1) := by decide +kernel
theorem dX4_prepare_17 : decode cX4_prepare 17 = .ok (.getfield 41, 3) := by decide +kernel
theorem dX4_prepare_20 : decode cX4_prepare 20 = .ok (.iconst 4, 1) := by decide +kernel
theorem dX4_prepare_21 : decode cX4_prepare 21 = .ok (.iaload, 1) := by decide +kernel
theorem dX4_prepare_22 : decode cX4_prepare 22 = .ok (.goto 5, 3) := by decide +kernel
theorem dX4_prepare_25 : decode cX4_prepare 25 = .ok (.ldc 44, 2) := by decide +kernel
theorem dX4_prepare_27 : decode cX4_prepare 27 = .ok (.putfield 45, 3) := by decide +kernel
theorem dX4_prepare_30 : decode cX4_prepare 30 = .ok (.iconst 0, 1) := by decide +kernel
theorem dX4_prepare_31 : decode cX4_prepare 31 = .ok (.istore_n 3, 1) := by decide +kernel
theorem dX4_prepare_32 : decode cX4_prepare 32 = .ok (.iload_n 3, 1) := by decide +kernel
theorem dX4_prepare_33 : decode cX4_prepare 33 = .ok (.iconst 2, 1) := by decide +kernel
theorem dX4_prepare_34 : decode cX4_prepare 34 = .ok (.aload_n 0, 1) := by decide +kernel
theorem dX4_prepare_35 : decode cX4_prepare 35 = .ok (.getfield 40, 3) := by decide +kernel
theorem dX4_prepare_38 : decode cX4_prepare 38 = .ok (.imul, 1) := by decide +kernel
theorem dX4_prepare_39 : decode cX4_prepare 39 = .ok (.if_icmp .ge 48, 3) := by decide +kernel
theorem dX4_prepare_42 : decode cX4_prepare 42 = .ok (.iconst 0, 1) := by decide +kernel
theorem dX4_prepare_43 : decode cX4_prepare 43 = .ok (.istore 4, 2) := by decide +kernel
theorem dX4_prepare_45 : decode cX4_prepare 45 = .ok (.iload 4, 2) := by decide +kernel
theorem dX4_prepare_47 : decode cX4_prepare 47 = .ok (.iconst 2, 1) := by decide +kernel
theorem dX4_prepare_48 : decode cX4_prepare 48 = .ok (.aload_n 0, 1) := by decide +kernel
theorem dX4_prepare_49 : decode cX4_prepare 49 = .ok (.getfield 40, 3) := by decide +kernel
theorem dX4_prepare_52 : decode cX4_prepare 52 = .ok (.imul, 1) := by decide +kernel
theorem dX4_prepare_53 : decode cX4_prepare 53 = .ok (.if_icmp .ge 28, 3) := by decide +kernel
theorem dX4_prepare_56 : decode cX4_prepare 56 = .ok (.aload_n 0, 1) := by decide +kernel
theorem dX4_prepare_57 : decode cX4_prepare 57 = .ok (.getfield 9, 3) := by decide +kernel
theorem dX4_prepare_60 : decode cX4_prepare 60 = .ok (.iload_n 3, 1) := by decide +kernel
theorem dX4_prepare_61 : decode cX4_prepare 61 = .ok (.bipush 18, 2) := by decide +kernel
theorem dX4_prepare_63 : decode cX4_prepare 63 = .ok (.imul, 1) := by decide +kernel
theorem dX4_prepare_64 : decode cX4_prepare 64 = .ok (.iload 4, 2) := by decide +kernel
theorem dX4_prepare_66 : decode cX4_prepare 66 = .ok (.iadd, 1) := by decide +kernel
theorem dX4_prepare_67 : decode cX4_prepare 67 = .ok (.aload_n 1, 1) := by decide +kernel
theorem dX4_prepare_68 : decode cX4_prepare 68 = .ok (.iload_n 3, 1) := by decide +kernel
theorem dX4_prepare_69 : decode cX4_prepare 69 = .ok (.iload 4, 2) := by decide +kernel
theorem dX4_prepare_71 : decode cX4_prepare 71 = .ok (.invokevirtual 48, 3) := by decide +kernel
theorem dX4_prepare_74 : decode cX4_prepare 74 = .ok (.iastore, 1) := by decide +kernel
theorem dX4_prepare_75 : decode cX4_prepare 75 = .ok (.iinc 4 1, 3) := by decide +kernel
theorem dX4_prepare_78 : decode cX4_prepare 78 = .ok (.goto (-33), 3) := by decide +kernel
theorem dX4_prepare_81 : decode cX4_prepare 81 = .ok (.iinc 3 1, 3) := by decide +kernel
theorem dX4_prepare_84 : decode cX4_prepare 84 = .ok (.goto (-52), 3) := by decide +kernel
theorem dX4_prepare_87 : decode cX4_prepare 87 = .ok (.return_, 1) := by decide +kernel
set_option maxRecDepth 20000 in
theorem ggX4_solve_X4_fill : GoodIn wsX4_solve wsX4_fill := goodIn_r _ [9, 10, 11, 12, 13, 14, 8, 15, 16, 17, 18, 19, 20, 21, 22, 23, 24, 25, 26, 27, 28, 29, 30, 31, 32, 3, 33, 34, 35, 36, 37, 38, 39, 40, 41, 42, 43, 44, 45, 46, 47, 48, 49, 67, 68, 69, 70, 71, 72, 73, 74, 75, 76, 77, 78] (by decide +kernel) (by decide +kernel)
set_option maxRecDepth 20000 in
theorem gX4_solve_X4_fill : GoodIn wsX4_solve (wsV RX4 52 RX4 yX4_fill wsX4_fill) := goodIn_app (goodIn_of _ (by decide +kernel)) ggX4_solve_X4_fill
set_option maxRecDepth 20000 in
theorem ggX4_solve_X4_all : GoodIn wsX4_solve wsX4_all := goodIn_r _ [15, 10, 67, 68, 69, 70, 71, 72, 73, 74, 75] (by decide +kernel) (by decide +kernel)
set_option maxRecDepth 20000 in
theorem gX4_solve_X4_all : GoodIn wsX4_solve (wsV RX4 56 RX4 yX4_all wsX4_all) := goodIn_app (goodIn_of _ (by decide +kernel)) ggX4_solve_X4_all
set_option maxRecDepth 20000 in
theorem ggX4_solve_X4_leastOf : GoodIn wsX4_solve wsX4_leastOf := goodIn_r _ [53, 3, 10, 38, 34, 35, 36, 37, 67, 68, 69, 70, 71, 72, 73, 74, 75] (by decide +kernel) (by decide +kernel)
set_option maxRecDepth 20000 in
theorem gX4_solve_X4_leastOf : GoodIn wsX4_solve (wsV RX4 60 RX4 yX4_leastOf wsX4_leastOf) := goodIn_app (goodIn_of _ (by decide +kernel)) ggX4_solve_X4_leastOf
set_option maxRecDepth 20000 in
theorem ggX4_solve_X4_trace : GoodIn wsX4_solve wsX4_trace := goodIn_r _ [57, 10, 58, 33, 12, 13, 14, 8, 15, 59, 60, 61, 62, 11, 3, 38, 4, 34, 35, 36, 37, 16, 17, 18, 19, 20, 21, 22, 23, 24, 25, 26, 27, 28, 63, 64, 65, 66, 49, 67, 68, 69, 70, 71, 72, 73, 74, 75, 76, 77, 78] (by decide +kernel) (by decide +kernel)
set_option maxRecDepth 20000 in
theorem gX4_solve_X4_trace : GoodIn wsX4_solve (wsV RX4 70 RX4 yX4_trace wsX4_trace) := goodIn_app (goodIn_of _ (by decide +kernel)) ggX4_solve_X4_trace
theorem dX4_solve_0 : decode cX4_solve 0 = .ok (.aload_n 0, 1) := by decide +kernel
theorem dX4_solve_1 : decode cX4_solve 1 = .ok (.iconst (-1), 1) := by decide +kernel
theorem dX4_solve_2 : decode cX4_solve 2 = .ok (.iconst (-1), 1) := by decide +kernel
theorem dX4_solve_3 : decode cX4_solve 3 = .ok (.invokevirtual 52, 3) := by decide +kernel
theorem dX4_solve_6 : decode cX4_solve 6 = .ok (.aload_n 0, 1) := by decide +kernel
theorem dX4_solve_7 : decode cX4_solve 7 = .ok (.getfield 18, 3) := by decide +kernel
theorem dX4_solve_10 : decode cX4_solve 10 = .ok (.iconst 0, 1) := by decide +kernel
theorem dX4_solve_11 : decode cX4_solve 11 = .ok (.iconst 0, 1) := by decide +kernel
theorem dX4_solve_12 : decode cX4_solve 12 = .ok (.iastore, 1) := by decide +kernel
theorem dX4_solve_13 : decode cX4_solve 13 = .ok (.iconst 1, 1) := by decide +kernel
theorem dX4_solve_14 : decode cX4_solve 14 = .ok (.istore_n 1, 1) := by decide +kernel
theorem dX4_solve_15 : decode cX4_solve 15 = .ok (.iload_n 1, 1) := by decide +kernel
theorem dX4_solve_16 : decode cX4_solve 16 = .ok (.aload_n 0, 1) := by decide +kernel
theorem dX4_solve_17 : decode cX4_solve 17 = .ok (.invokevirtual 56, 3) := by decide +kernel
theorem dX4_solve_20 : decode cX4_solve 20 = .ok (.if_icmp .gt 20, 3) := by decide +kernel
theorem dX4_solve_23 : decode cX4_solve 23 = .ok (.aload_n 0, 1) := by decide +kernel
theorem dX4_solve_24 : decode cX4_solve 24 = .ok (.getfield 18, 3) := by decide +kernel
theorem dX4_solve_27 : decode cX4_solve 27 = .ok (.iload_n 1, 1) := by decide +kernel
theorem dX4_solve_28 : decode cX4_solve 28 = .ok (.aload_n 0, 1) := by decide +kernel
theorem dX4_solve_29 : decode cX4_solve 29 = .ok (.iload_n 1, 1) := by decide +kernel
theorem dX4_solve_30 : decode cX4_solve 30 = .ok (.invokevirtual 60, 3) := by decide +kernel
theorem dX4_solve_33 : decode cX4_solve 33 = .ok (.iastore, 1) := by decide +kernel
theorem dX4_solve_34 : decode cX4_solve 34 = .ok (.iinc 1 1, 3) := by decide +kernel
theorem dX4_solve_37 : decode cX4_solve 37 = .ok (.goto (-22), 3) := by decide +kernel
theorem dX4_solve_40 : decode cX4_solve 40 = .ok (.aload_n 0, 1) := by decide +kernel
theorem dX4_solve_41 : decode cX4_solve 41 = .ok (.aload_n 0, 1) := by decide +kernel
theorem dX4_solve_42 : decode cX4_solve 42 = .ok (.getfield 18, 3) := by decide +kernel
theorem dX4_solve_45 : decode cX4_solve 45 = .ok (.aload_n 0, 1) := by decide +kernel
theorem dX4_solve_46 : decode cX4_solve 46 = .ok (.invokevirtual 56, 3) := by decide +kernel
theorem dX4_solve_49 : decode cX4_solve 49 = .ok (.iaload, 1) := by decide +kernel
theorem dX4_solve_50 : decode cX4_solve 50 = .ok (.putfield 64, 3) := by decide +kernel
theorem dX4_solve_53 : decode cX4_solve 53 = .ok (.aload_n 0, 1) := by decide +kernel
theorem dX4_solve_54 : decode cX4_solve 54 = .ok (.ldc 44, 2) := by decide +kernel
theorem dX4_solve_56 : decode cX4_solve 56 = .ok (.putfield 67, 3) := by decide +kernel
theorem dX4_solve_59 : decode cX4_solve 59 = .ok (.aload_n 0, 1) := by decide +kernel
theorem dX4_solve_60 : decode cX4_solve 60 = .ok (.getfield 64, 3) := by decide +kernel
theorem dX4_solve_63 : decode cX4_solve 63 = .ok (.ldc 44, 2) := by decide +kernel
theorem dX4_solve_65 : decode cX4_solve 65 = .ok (.if_icmp .ge 7, 3) := by decide +kernel
theorem dX4_solve_68 : decode cX4_solve 68 = .ok (.aload_n 0, 1) := by decide +kernel
theorem dX4_solve_69 : decode cX4_solve 69 = .ok (.invokevirtual 70, 3) := by decide +kernel
theorem dX4_solve_72 : decode cX4_solve 72 = .ok (.return_, 1) := by decide +kernel
set_option maxRecDepth 20000 in
theorem ggX4_isSure_X4_isInBest : GoodIn wsX4_isSure wsX4_isInBest := goodIn_r _ [7, 8, 9, 58, 59, 60, 61, 62, 63, 64, 65, 66] (by decide +kernel) (by decide +kernel)
set_option maxRecDepth 20000 in
theorem gX4_isSure_X4_isInBest : GoodIn wsX4_isSure (wsV RX4 73 RX4 yX4_isInBest wsX4_isInBest) := goodIn_app (goodIn_of _ (by decide +kernel)) ggX4_isSure_X4_isInBest
set_option maxRecDepth 20000 in
theorem ggX4_isSure_X4_fill : GoodIn wsX4_isSure wsX4_fill := goodIn_r _ [13, 8, 14, 15, 16, 17, 6, 18, 19, 20, 21, 22, 23, 24, 25, 26, 27, 28, 29, 30, 31, 32, 33, 34, 35, 36, 37, 38, 39, 40, 41, 42, 43, 44, 45, 46, 47, 48, 49, 50, 51, 52, 53, 58, 59, 60, 61, 62, 63, 64, 65, 66, 67, 68, 69] (by decide +kernel) (by decide +kernel)
set_option maxRecDepth 20000 in
theorem gX4_isSure_X4_fill : GoodIn wsX4_isSure (wsV RX4 52 RX4 yX4_fill wsX4_fill) := goodIn_app (goodIn_of _ (by decide +kernel)) ggX4_isSure_X4_fill
set_option maxRecDepth 20000 in
theorem ggX4_isSure_X4_all : GoodIn wsX4_isSure wsX4_all := goodIn_r _ [18, 8, 58, 59, 60, 61, 62, 63, 64, 65, 66] (by decide +kernel) (by decide +kernel)
set_option maxRecDepth 20000 in
theorem gX4_isSure_X4_all : GoodIn wsX4_isSure (wsV RX4 56 RX4 yX4_all wsX4_all) := goodIn_app (goodIn_of _ (by decide +kernel)) ggX4_isSure_X4_all
set_option maxRecDepth 20000 in
theorem ggX4_isSure_X4_leastOf : GoodIn wsX4_isSure wsX4_leastOf := goodIn_r _ [57, 36, 8, 42, 38, 39, 40, 41, 58, 59, 60, 61, 62, 63, 64, 65, 66] (by decide +kernel) (by decide +kernel)
set_option maxRecDepth 20000 in
theorem gX4_isSure_X4_leastOf : GoodIn wsX4_isSure (wsV RX4 60 RX4 yX4_leastOf wsX4_leastOf) := goodIn_app (goodIn_of _ (by decide +kernel)) ggX4_isSure_X4_leastOf
theorem dX4_isSure_0 : decode cX4_isSure 0 = .ok (.aload_n 0, 1) := by decide +kernel
theorem dX4_isSure_1 : decode cX4_isSure 1 = .ok (.iload_n 1, 1) := by decide +kernel
theorem dX4_isSure_2 : decode cX4_isSure 2 = .ok (.iload_n 2, 1) := by decide +kernel
theorem dX4_isSure_3 : decode cX4_isSure 3 = .ok (.invokevirtual 73, 3) := by decide +kernel
theorem dX4_isSure_6 : decode cX4_isSure 6 = .ok (.ifCond .ne 5, 3) := by decide +kernel
theorem dX4_isSure_9 : decode cX4_isSure 9 = .ok (.iconst 0, 1) := by decide +kernel
theorem dX4_isSure_10 : decode cX4_isSure 10 = .ok (.ireturn, 1) := by decide +kernel
theorem dX4_isSure_11 : decode cX4_isSure 11 = .ok (.aload_n 0, 1) := by decide +kernel
theorem dX4_isSure_12 : decode cX4_isSure 12 = .ok (.getfield 67, 3) := by decide +kernel
theorem dX4_isSure_15 : decode cX4_isSure 15 = .ok (.aload_n 0, 1) := by decide +kernel
theorem dX4_isSure_16 : decode cX4_isSure 16 = .ok (.getfield 64, 3) := by decide +kernel
theorem dX4_isSure_19 : decode cX4_isSure 19 = .ok (.iload_n 3, 1) := by decide +kernel
theorem dX4_isSure_20 : decode cX4_isSure 20 = .ok (.iadd, 1) := by decide +kernel
theorem dX4_isSure_21 : decode cX4_isSure 21 = .ok (.if_icmp .le 5, 3) := by decide +kernel
theorem dX4_isSure_24 : decode cX4_isSure 24 = .ok (.iconst 1, 1) := by decide +kernel
theorem dX4_isSure_25 : decode cX4_isSure 25 = .ok (.ireturn, 1) := by decide +kernel
theorem dX4_isSure_26 : decode cX4_isSure 26 = .ok (.aload_n 0, 1) := by decide +kernel
theorem dX4_isSure_27 : decode cX4_isSure 27 = .ok (.iload_n 1, 1) := by decide +kernel
theorem dX4_isSure_28 : decode cX4_isSure 28 = .ok (.iload_n 2, 1) := by decide +kernel
theorem dX4_isSure_29 : decode cX4_isSure 29 = .ok (.invokevirtual 52, 3) := by decide +kernel
theorem dX4_isSure_32 : decode cX4_isSure 32 = .ok (.aload_n 0, 1) := by decide +kernel
theorem dX4_isSure_33 : decode cX4_isSure 33 = .ok (.aload_n 0, 1) := by decide +kernel
theorem dX4_isSure_34 : decode cX4_isSure 34 = .ok (.invokevirtual 56, 3) := by decide +kernel
theorem dX4_isSure_37 : decode cX4_isSure 37 = .ok (.invokevirtual 60, 3) := by decide +kernel
theorem dX4_isSure_40 : decode cX4_isSure 40 = .ok (.aload_n 0, 1) := by decide +kernel
theorem dX4_isSure_41 : decode cX4_isSure 41 = .ok (.getfield 64, 3) := by decide +kernel
theorem dX4_isSure_44 : decode cX4_isSure 44 = .ok (.iload_n 3, 1) := by decide +kernel
theorem dX4_isSure_45 : decode cX4_isSure 45 = .ok (.iadd, 1) := by decide +kernel
theorem dX4_isSure_46 : decode cX4_isSure 46 = .ok (.if_icmp .le 7, 3) := by decide +kernel
theorem dX4_isSure_49 : decode cX4_isSure 49 = .ok (.iconst 1, 1) := by decide +kernel
theorem dX4_isSure_50 : decode cX4_isSure 50 = .ok (.goto 4, 3) := by decide +kernel
theorem dX4_isSure_53 : decode cX4_isSure 53 = .ok (.iconst 0, 1) := by decide +kernel
theorem dX4_isSure_54 : decode cX4_isSure 54 = .ok (.ireturn, 1) := by decide +kernel
theorem dX4_all_0 : decode cX4_all 0 = .ok (.iconst 1, 1) := by decide +kernel
theorem dX4_all_1 : decode cX4_all 1 = .ok (.aload_n 0, 1) := by decide +kernel
theorem dX4_all_2 : decode cX4_all 2 = .ok (.getfield 40, 3) := by decide +kernel
theorem dX4_all_5 : decode cX4_all 5 = .ok (.ishl, 1) := by decide +kernel
theorem dX4_all_6 : decode cX4_all 6 = .ok (.iconst 1, 1) := by decide +kernel
theorem dX4_all_7 : decode cX4_all 7 = .ok (.isub, 1) := by decide +kernel
theorem dX4_all_8 : decode cX4_all 8 = .ok (.ireturn, 1) := by decide +kernel
set_option maxRecDepth 20000 in
theorem ggX4_fill_X4_all : GoodIn wsX4_fill wsX4_all := goodIn_r _ [7, 1, 43, 44, 45, 46, 47, 48, 49, 50, 51] (by decide +kernel) (by decide +kernel)
set_option maxRecDepth 20000 in
theorem gX4_fill_X4_all : GoodIn wsX4_fill (wsV RX4 56 RX4 yX4_all wsX4_all) := goodIn_app (goodIn_of _ (by decide +kernel)) ggX4_fill_X4_all
set_option maxRecDepth 20000 in
theorem ggX4_fill_X2_neighboursOf : GoodIn wsX4_fill wsX2_neighboursOf := goodIn_r _ [12, 13, 14, 15, 16, 17, 18, 19, 20, 52, 53, 54] (by decide +kernel) (by decide +kernel)
set_option maxRecDepth 20000 in
theorem gX4_fill_X2_neighboursOf : GoodIn wsX4_fill (wsV RX4 77 RX2 yX2_neighboursOf wsX2_neighboursOf) := goodIn_app (goodIn_of _ (by decide +kernel)) ggX4_fill_X2_neighboursOf
set_option maxRecDepth 20000 in
theorem ggX4_fill_X4_fillLast : GoodIn wsX4_fill wsX4_fillLast := goodIn_r _ [24, 25, 2, 26, 27, 28, 29, 30, 31, 32, 33, 34, 11, 35, 36, 37, 38, 39, 40, 6, 41, 1, 42, 43, 44, 45, 46, 47, 48, 49, 50, 51, 52, 53, 54] (by decide +kernel) (by decide +kernel)
set_option maxRecDepth 20000 in
theorem gX4_fill_X4_fillLast : GoodIn wsX4_fill (wsV RX4 82 RX4 yX4_fillLast wsX4_fillLast) := goodIn_app (goodIn_of _ (by decide +kernel)) ggX4_fill_X4_fillLast
theorem dX4_fill_0 : decode cX4_fill 0 = .ok (.iconst 1, 1) := by decide +kernel
theorem dX4_fill_1 : decode cX4_fill 1 = .ok (.istore_n 3, 1) := by decide +kernel
theorem dX4_fill_2 : decode cX4_fill 2 = .ok (.iload_n 3, 1) := by decide +kernel
theorem dX4_fill_3 : decode cX4_fill 3 = .ok (.aload_n 0, 1) := by decide +kernel
theorem dX4_fill_4 : decode cX4_fill 4 = .ok (.invokevirtual 56, 3) := by decide +kernel
theorem dX4_fill_7 : decode cX4_fill 7 = .ok (.if_icmp .gt 84, 3) := by decide +kernel
theorem dX4_fill_10 : decode cX4_fill 10 = .ok (.iconst 0, 1) := by decide +kernel
theorem dX4_fill_11 : decode cX4_fill 11 = .ok (.istore 4, 2) := by decide +kernel
theorem dX4_fill_13 : decode cX4_fill 13 = .ok (.iload 4, 2) := by decide +kernel
theorem dX4_fill_15 : decode cX4_fill 15 = .ok (.aload_n 0, 1) := by decide +kernel
theorem dX4_fill_16 : decode cX4_fill 16 = .ok (.getfield 40, 3) := by decide +kernel
theorem dX4_fill_19 : decode cX4_fill 19 = .ok (.if_icmp .ge 66, 3) := by decide +kernel
theorem dX4_fill_22 : decode cX4_fill 22 = .ok (.iload_n 3, 1) := by decide +kernel
theorem dX4_fill_23 : decode cX4_fill 23 = .ok (.iload 4, 2) := by decide +kernel
theorem dX4_fill_25 : decode cX4_fill 25 = .ok (.ishr, 1) := by decide +kernel
theorem dX4_fill_26 : decode cX4_fill 26 = .ok (.iconst 1, 1) := by decide +kernel
theorem dX4_fill_27 : decode cX4_fill 27 = .ok (.iand, 1) := by decide +kernel
theorem dX4_fill_28 : decode cX4_fill 28 = .ok (.ifCond .eq 51, 3) := by decide +kernel
theorem dX4_fill_31 : decode cX4_fill 31 = .ok (.iload_n 3, 1) := by decide +kernel
theorem dX4_fill_32 : decode cX4_fill 32 = .ok (.iconst 1, 1) := by decide +kernel
theorem dX4_fill_33 : decode cX4_fill 33 = .ok (.iload 4, 2) := by decide +kernel
theorem dX4_fill_35 : decode cX4_fill 35 = .ok (.ishl, 1) := by decide +kernel
theorem dX4_fill_36 : decode cX4_fill 36 = .ok (.iconst (-1), 1) := by decide +kernel
theorem dX4_fill_37 : decode cX4_fill 37 = .ok (.ixor, 1) := by decide +kernel
theorem dX4_fill_38 : decode cX4_fill 38 = .ok (.iand, 1) := by decide +kernel
theorem dX4_fill_39 : decode cX4_fill 39 = .ok (.istore 5, 2) := by decide +kernel
theorem dX4_fill_41 : decode cX4_fill 41 = .ok (.aload_n 0, 1) := by decide +kernel
theorem dX4_fill_42 : decode cX4_fill 42 = .ok (.getfield 24, 3) := by decide +kernel
theorem dX4_fill_45 : decode cX4_fill 45 = .ok (.iload 4, 2) := by decide +kernel
theorem dX4_fill_47 : decode cX4_fill 47 = .ok (.iload 5, 2) := by decide +kernel
theorem dX4_fill_49 : decode cX4_fill 49 = .ok (.invokevirtual 77, 3) := by decide +kernel
theorem dX4_fill_52 : decode cX4_fill 52 = .ok (.istore 6, 2) := by decide +kernel
theorem dX4_fill_54 : decode cX4_fill 54 = .ok (.iload 4, 2) := by decide +kernel
theorem dX4_fill_56 : decode cX4_fill 56 = .ok (.iload_n 2, 1) := by decide +kernel
theorem dX4_fill_57 : decode cX4_fill 57 = .ok (.if_icmp .ne 13, 3) := by decide +kernel
theorem dX4_fill_60 : decode cX4_fill 60 = .ok (.iload 6, 2) := by decide +kernel
theorem dX4_fill_62 : decode cX4_fill 62 = .ok (.iconst 1, 1) := by decide +kernel
theorem dX4_fill_63 : decode cX4_fill 63 = .ok (.iload_n 1, 1) := by decide +kernel
theorem dX4_fill_64 : decode cX4_fill 64 = .ok (.ishl, 1) := by decide +kernel
theorem dX4_fill_65 : decode cX4_fill 65 = .ok (.iconst (-1), 1) := by decide +kernel
theorem dX4_fill_66 : decode cX4_fill 66 = .ok (.ixor, 1) := by decide +kernel
theorem dX4_fill_67 : decode cX4_fill 67 = .ok (.iand, 1) := by decide +kernel
theorem dX4_fill_68 : decode cX4_fill 68 = .ok (.istore 6, 2) := by decide +kernel
theorem dX4_fill_70 : decode cX4_fill 70 = .ok (.aload_n 0, 1) := by decide +kernel
theorem dX4_fill_71 : decode cX4_fill 71 = .ok (.iload_n 3, 1) := by decide +kernel
theorem dX4_fill_72 : decode cX4_fill 72 = .ok (.iload 4, 2) := by decide +kernel
theorem dX4_fill_74 : decode cX4_fill 74 = .ok (.iload 6, 2) := by decide +kernel
theorem dX4_fill_76 : decode cX4_fill 76 = .ok (.invokevirtual 82, 3) := by decide +kernel
theorem dX4_fill_79 : decode cX4_fill 79 = .ok (.iinc 4 1, 3) := by decide +kernel
theorem dX4_fill_82 : decode cX4_fill 82 = .ok (.goto (-69), 3) := by decide +kernel
theorem dX4_fill_85 : decode cX4_fill 85 = .ok (.iinc 3 1, 3) := by decide +kernel
theorem dX4_fill_88 : decode cX4_fill 88 = .ok (.goto (-86), 3) := by decide +kernel
theorem dX4_fill_91 : decode cX4_fill 91 = .ok (.return_, 1) := by decide +kernel
set_option maxRecDepth 20000 in
theorem ggX4_fillLast_X2_mayComeAfter : GoodIn wsX4_fillLast wsX2_mayComeAfter := goodIn_r _ [13, 14, 15, 32, 33, 34] (by decide +kernel) (by decide +kernel)
set_option maxRecDepth 20000 in
theorem gX4_fillLast_X2_mayComeAfter : GoodIn wsX4_fillLast (wsV RX4 86 RX2 yX2_mayComeAfter wsX2_mayComeAfter) := goodIn_app (goodIn_of _ (by decide +kernel)) ggX4_fillLast_X2_mayComeAfter
set_option maxRecDepth 20000 in
theorem ggX4_fillLast_X4_leastUpTo : GoodIn wsX4_fillLast wsX4_leastUpTo := goodIn_r _ [20, 1, 21, 8, 22, 4, 5, 6, 7, 23, 24, 25, 26, 27, 28, 29, 30, 31] (by decide +kernel) (by decide +kernel)
set_option maxRecDepth 20000 in
theorem gX4_fillLast_X4_leastUpTo : GoodIn wsX4_fillLast (wsV RX4 89 RX4 yX4_leastUpTo wsX4_leastUpTo) := goodIn_app (goodIn_of _ (by decide +kernel)) ggX4_fillLast_X4_leastUpTo
theorem dX4_fillLast_0 : decode cX4_fillLast 0 = .ok (.iload_n 1, 1) := by decide +kernel
theorem dX4_fillLast_1 : decode cX4_fillLast 1 = .ok (.iconst 1, 1) := by decide +kernel
theorem dX4_fillLast_2 : decode cX4_fillLast 2 = .ok (.iload_n 2, 1) := by decide +kernel
theorem dX4_fillLast_3 : decode cX4_fillLast 3 = .ok (.ishl, 1) := by decide +kernel
theorem dX4_fillLast_4 : decode cX4_fillLast 4 = .ok (.iconst (-1), 1) := by decide +kernel
theorem dX4_fillLast_5 : decode cX4_fillLast 5 = .ok (.ixor, 1) := by decide +kernel
theorem dX4_fillLast_6 : decode cX4_fillLast 6 = .ok (.iand, 1) := by decide +kernel
theorem dX4_fillLast_7 : decode cX4_fillLast 7 = .ok (.istore 4, 2) := by decide +kernel
theorem dX4_fillLast_9 : decode cX4_fillLast 9 = .ok (.iconst 2, 1) := by decide +kernel
theorem dX4_fillLast_10 : decode cX4_fillLast 10 = .ok (.iload_n 2, 1) := by decide +kernel
theorem dX4_fillLast_11 : decode cX4_fillLast 11 = .ok (.imul, 1) := by decide +kernel
theorem dX4_fillLast_12 : decode cX4_fillLast 12 = .ok (.istore 5, 2) := by decide +kernel
theorem dX4_fillLast_14 : decode cX4_fillLast 14 = .ok (.ldc 44, 2) := by decide +kernel
theorem dX4_fillLast_16 : decode cX4_fillLast 16 = .ok (.istore 6, 2) := by decide +kernel
theorem dX4_fillLast_18 : decode cX4_fillLast 18 = .ok (.ldc 44, 2) := by decide +kernel
theorem dX4_fillLast_20 : decode cX4_fillLast 20 = .ok (.istore 7, 2) := by decide +kernel
theorem dX4_fillLast_22 : decode cX4_fillLast 22 = .ok (.aload_n 0, 1) := by decide +kernel
theorem dX4_fillLast_23 : decode cX4_fillLast 23 = .ok (.getfield 24, 3) := by decide +kernel
theorem dX4_fillLast_26 : decode cX4_fillLast 26 = .ok (.iload_n 2, 1) := by decide +kernel
theorem dX4_fillLast_27 : decode cX4_fillLast 27 = .ok (.iload 4, 2) := by decide +kernel
theorem dX4_fillLast_29 : decode cX4_fillLast 29 = .ok (.invokevirtual 86, 3) := by decide +kernel
theorem dX4_fillLast_32 : decode cX4_fillLast 32 = .ok (.ifCond .eq 46, 3) := by decide +kernel
theorem dX4_fillLast_35 : decode cX4_fillLast 35 = .ok (.aload_n 0, 1) := by decide +kernel
theorem dX4_fillLast_36 : decode cX4_fillLast 36 = .ok (.iload 4, 2) := by decide +kernel
theorem dX4_fillLast_38 : decode cX4_fillLast 38 = .ok (.iload_n 3, 1) := by decide +kernel
theorem dX4_fillLast_39 : decode cX4_fillLast 39 = .ok (.iload 5, 2) := by decide +kernel
theorem dX4_fillLast_41 : decode cX4_fillLast 41 = .ok (.invokevirtual 89, 3) := by decide +kernel
theorem dX4_fillLast_44 : decode cX4_fillLast 44 = .ok (.istore 6, 2) := by decide +kernel
theorem dX4_fillLast_46 : decode cX4_fillLast 46 = .ok (.aload_n 0, 1) := by decide +kernel
theorem dX4_fillLast_47 : decode cX4_fillLast 47 = .ok (.getfield 45, 3) := by decide +kernel
theorem dX4_fillLast_50 : decode cX4_fillLast 50 = .ok (.ldc 44, 2) := by decide +kernel
theorem dX4_fillLast_52 : decode cX4_fillLast 52 = .ok (.if_icmp .ge 26, 3) := by decide +kernel
theorem dX4_fillLast_55 : decode cX4_fillLast 55 = .ok (.ldc 44, 2) := by decide +kernel
theorem dX4_fillLast_57 : decode cX4_fillLast 57 = .ok (.aload_n 0, 1) := by decide +kernel
theorem dX4_fillLast_58 : decode cX4_fillLast 58 = .ok (.iload 4, 2) := by decide +kernel
theorem dX4_fillLast_60 : decode cX4_fillLast 60 = .ok (.iload_n 3, 1) := by decide +kernel
theorem dX4_fillLast_61 : decode cX4_fillLast 61 = .ok (.iload 5, 2) := by decide +kernel
theorem dX4_fillLast_63 : decode cX4_fillLast 63 = .ok (.iconst 1, 1) := by decide +kernel
theorem dX4_fillLast_64 : decode cX4_fillLast 64 = .ok (.iadd, 1) := by decide +kernel
theorem dX4_fillLast_65 : decode cX4_fillLast 65 = .ok (.invokevirtual 89, 3) := by decide +kernel
theorem dX4_fillLast_68 : decode cX4_fillLast 68 = .ok (.aload_n 0, 1) := by decide +kernel
theorem dX4_fillLast_69 : decode cX4_fillLast 69 = .ok (.getfield 45, 3) := by decide +kernel
theorem dX4_fillLast_72 : decode cX4_fillLast 72 = .ok (.iadd, 1) := by decide +kernel
theorem dX4_fillLast_73 : decode cX4_fillLast 73 = .ok (.invokestatic 93, 3) := by decide +kernel
theorem dX4_fillLast_76 : decode cX4_fillLast 76 = .ok (.istore 7, 2) := by decide +kernel
theorem dX4_fillLast_78 : decode cX4_fillLast 78 = .ok (.aload_n 0, 1) := by decide +kernel
theorem dX4_fillLast_79 : decode cX4_fillLast 79 = .ok (.getfield 15, 3) := by decide +kernel
theorem dX4_fillLast_82 : decode cX4_fillLast 82 = .ok (.iload_n 1, 1) := by decide +kernel
theorem dX4_fillLast_83 : decode cX4_fillLast 83 = .ok (.bipush 18, 2) := by decide +kernel
theorem dX4_fillLast_85 : decode cX4_fillLast 85 = .ok (.imul, 1) := by decide +kernel
theorem dX4_fillLast_86 : decode cX4_fillLast 86 = .ok (.iload 5, 2) := by decide +kernel
theorem dX4_fillLast_88 : decode cX4_fillLast 88 = .ok (.iadd, 1) := by decide +kernel
theorem dX4_fillLast_89 : decode cX4_fillLast 89 = .ok (.iload 6, 2) := by decide +kernel
theorem dX4_fillLast_91 : decode cX4_fillLast 91 = .ok (.iastore, 1) := by decide +kernel
theorem dX4_fillLast_92 : decode cX4_fillLast 92 = .ok (.aload_n 0, 1) := by decide +kernel
theorem dX4_fillLast_93 : decode cX4_fillLast 93 = .ok (.getfield 15, 3) := by decide +kernel
theorem dX4_fillLast_96 : decode cX4_fillLast 96 = .ok (.iload_n 1, 1) := by decide +kernel
theorem dX4_fillLast_97 : decode cX4_fillLast 97 = .ok (.bipush 18, 2) := by decide +kernel
theorem dX4_fillLast_99 : decode cX4_fillLast 99 = .ok (.imul, 1) := by decide +kernel
theorem dX4_fillLast_100 : decode cX4_fillLast 100 = .ok (.iload 5, 2) := by decide +kernel
theorem dX4_fillLast_102 : decode cX4_fillLast 102 = .ok (.iadd, 1) := by decide +kernel
theorem dX4_fillLast_103 : decode cX4_fillLast 103 = .ok (.iconst 1, 1) := by decide +kernel
theorem dX4_fillLast_104 : decode cX4_fillLast 104 = .ok (.iadd, 1) := by decide +kernel
theorem dX4_fillLast_105 : decode cX4_fillLast 105 = .ok (.iload 7, 2) := by decide +kernel
theorem dX4_fillLast_107 : decode cX4_fillLast 107 = .ok (.iastore, 1) := by decide +kernel
theorem dX4_fillLast_108 : decode cX4_fillLast 108 = .ok (.return_, 1) := by decide +kernel
theorem dX4_leastUpTo_0 : decode cX4_leastUpTo 0 = .ok (.iload_n 1, 1) := by decide +kernel
theorem dX4_leastUpTo_1 : decode cX4_leastUpTo 1 = .ok (.ifCond .ne 5, 3) := by decide +kernel
theorem dX4_leastUpTo_4 : decode cX4_leastUpTo 4 = .ok (.iconst 0, 1) := by decide +kernel
theorem dX4_leastUpTo_5 : decode cX4_leastUpTo 5 = .ok (.ireturn, 1) := by decide +kernel
theorem dX4_leastUpTo_6 : decode cX4_leastUpTo 6 = .ok (.ldc 44, 2) := by decide +kernel
theorem dX4_leastUpTo_8 : decode cX4_leastUpTo 8 = .ok (.istore 4, 2) := by decide +kernel
theorem dX4_leastUpTo_10 : decode cX4_leastUpTo 10 = .ok (.iconst 0, 1) := by decide +kernel
theorem dX4_leastUpTo_11 : decode cX4_leastUpTo 11 = .ok (.istore 5, 2) := by decide +kernel
theorem dX4_leastUpTo_13 : decode cX4_leastUpTo 13 = .ok (.iload 5, 2) := by decide +kernel
theorem dX4_leastUpTo_15 : decode cX4_leastUpTo 15 = .ok (.aload_n 0, 1) := by decide +kernel
theorem dX4_leastUpTo_16 : decode cX4_leastUpTo 16 = .ok (.getfield 40, 3) := by decide +kernel
theorem dX4_leastUpTo_19 : decode cX4_leastUpTo 19 = .ok (.if_icmp .ge 91, 3) := by decide +kernel
theorem dX4_leastUpTo_22 : decode cX4_leastUpTo 22 = .ok (.iload_n 2, 1) := by decide +kernel
theorem dX4_leastUpTo_23 : decode cX4_leastUpTo 23 = .ok (.iload 5, 2) := by decide +kernel
theorem dX4_leastUpTo_25 : decode cX4_leastUpTo 25 = .ok (.ishr, 1) := by decide +kernel
theorem dX4_leastUpTo_26 : decode cX4_leastUpTo 26 = .ok (.iconst 1, 1) := by decide +kernel
theorem dX4_leastUpTo_27 : decode cX4_leastUpTo 27 = .ok (.iand, 1) := by decide +kernel
theorem dX4_leastUpTo_28 : decode cX4_leastUpTo 28 = .ok (.ifCond .eq 76, 3) := by decide +kernel
theorem dX4_leastUpTo_31 : decode cX4_leastUpTo 31 = .ok (.iconst 2, 1) := by decide +kernel
theorem dX4_leastUpTo_32 : decode cX4_leastUpTo 32 = .ok (.iload 5, 2) := by decide +kernel
theorem dX4_leastUpTo_34 : decode cX4_leastUpTo 34 = .ok (.imul, 1) := by decide +kernel
theorem dX4_leastUpTo_35 : decode cX4_leastUpTo 35 = .ok (.istore 6, 2) := by decide +kernel
theorem dX4_leastUpTo_37 : decode cX4_leastUpTo 37 = .ok (.iload_n 1, 1) := by decide +kernel
theorem dX4_leastUpTo_38 : decode cX4_leastUpTo 38 = .ok (.bipush 18, 2) := by decide +kernel
theorem dX4_leastUpTo_40 : decode cX4_leastUpTo 40 = .ok (.imul, 1) := by decide +kernel
theorem dX4_leastUpTo_41 : decode cX4_leastUpTo 41 = .ok (.iload 6, 2) := by decide +kernel
theorem dX4_leastUpTo_43 : decode cX4_leastUpTo 43 = .ok (.iadd, 1) := by decide +kernel
theorem dX4_leastUpTo_44 : decode cX4_leastUpTo 44 = .ok (.istore 7, 2) := by decide +kernel
theorem dX4_leastUpTo_46 : decode cX4_leastUpTo 46 = .ok (.iload 6, 2) := by decide +kernel
theorem dX4_leastUpTo_48 : decode cX4_leastUpTo 48 = .ok (.bipush 18, 2) := by decide +kernel
theorem dX4_leastUpTo_50 : decode cX4_leastUpTo 50 = .ok (.imul, 1) := by decide +kernel
theorem dX4_leastUpTo_51 : decode cX4_leastUpTo 51 = .ok (.iload_n 3, 1) := by decide +kernel
theorem dX4_leastUpTo_52 : decode cX4_leastUpTo 52 = .ok (.iadd, 1) := by decide +kernel
theorem dX4_leastUpTo_53 : decode cX4_leastUpTo 53 = .ok (.istore 8, 2) := by decide +kernel
theorem dX4_leastUpTo_55 : decode cX4_leastUpTo 55 = .ok (.iload 4, 2) := by decide +kernel
theorem dX4_leastUpTo_57 : decode cX4_leastUpTo 57 = .ok (.aload_n 0, 1) := by decide +kernel
theorem dX4_leastUpTo_58 : decode cX4_leastUpTo 58 = .ok (.getfield 15, 3) := by decide +kernel
theorem dX4_leastUpTo_61 : decode cX4_leastUpTo 61 = .ok (.iload 7, 2) := by decide +kernel
theorem dX4_leastUpTo_63 : decode cX4_leastUpTo 63 = .ok (.iaload, 1) := by decide +kernel
theorem dX4_leastUpTo_64 : decode cX4_leastUpTo 64 = .ok (.aload_n 0, 1) := by decide +kernel
theorem dX4_leastUpTo_65 : decode cX4_leastUpTo 65 = .ok (.getfield 9, 3) := by decide +kernel
theorem dX4_leastUpTo_68 : decode cX4_leastUpTo 68 = .ok (.iload 8, 2) := by decide +kernel
theorem dX4_leastUpTo_70 : decode cX4_leastUpTo 70 = .ok (.iaload, 1) := by decide +kernel
theorem dX4_leastUpTo_71 : decode cX4_leastUpTo 71 = .ok (.iadd, 1) := by decide +kernel
theorem dX4_leastUpTo_72 : decode cX4_leastUpTo 72 = .ok (.invokestatic 93, 3) := by decide +kernel
theorem dX4_leastUpTo_75 : decode cX4_leastUpTo 75 = .ok (.istore 4, 2) := by decide +kernel
theorem dX4_leastUpTo_77 : decode cX4_leastUpTo 77 = .ok (.iload 4, 2) := by decide +kernel
theorem dX4_leastUpTo_79 : decode cX4_leastUpTo 79 = .ok (.aload_n 0, 1) := by decide +kernel
theorem dX4_leastUpTo_80 : decode cX4_leastUpTo 80 = .ok (.getfield 15, 3) := by decide +kernel
theorem dX4_leastUpTo_83 : decode cX4_leastUpTo 83 = .ok (.iload 7, 2) := by decide +kernel
theorem dX4_leastUpTo_85 : decode cX4_leastUpTo 85 = .ok (.iconst 1, 1) := by decide +kernel
theorem dX4_leastUpTo_86 : decode cX4_leastUpTo 86 = .ok (.iadd, 1) := by decide +kernel
theorem dX4_leastUpTo_87 : decode cX4_leastUpTo 87 = .ok (.iaload, 1) := by decide +kernel
theorem dX4_leastUpTo_88 : decode cX4_leastUpTo 88 = .ok (.aload_n 0, 1) := by decide +kernel
theorem dX4_leastUpTo_89 : decode cX4_leastUpTo 89 = .ok (.getfield 9, 3) := by decide +kernel
theorem dX4_leastUpTo_92 : decode cX4_leastUpTo 92 = .ok (.iload 8, 2) := by decide +kernel
theorem dX4_leastUpTo_94 : decode cX4_leastUpTo 94 = .ok (.bipush 18, 2) := by decide +kernel
theorem dX4_leastUpTo_96 : decode cX4_leastUpTo 96 = .ok (.iadd, 1) := by decide +kernel
theorem dX4_leastUpTo_97 : decode cX4_leastUpTo 97 = .ok (.iaload, 1) := by decide +kernel
theorem dX4_leastUpTo_98 : decode cX4_leastUpTo 98 = .ok (.iadd, 1) := by decide +kernel
theorem dX4_leastUpTo_99 : decode cX4_leastUpTo 99 = .ok (.invokestatic 93, 3) := by decide +kernel
theorem dX4_leastUpTo_102 : decode cX4_leastUpTo 102 = .ok (.istore 4, 2) := by decide +kernel
theorem dX4_leastUpTo_104 : decode cX4_leastUpTo 104 = .ok (.iinc 5 1, 3) := by decide +kernel
theorem dX4_leastUpTo_107 : decode cX4_leastUpTo 107 = .ok (.goto (-94), 3) := by decide +kernel
theorem dX4_leastUpTo_110 : decode cX4_leastUpTo 110 = .ok (.iload 4, 2) := by decide +kernel
theorem dX4_leastUpTo_112 : decode cX4_leastUpTo 112 = .ok (.ireturn, 1) := by decide +kernel
theorem dX4_leastOf_0 : decode cX4_leastOf 0 = .ok (.ldc 44, 2) := by decide +kernel
theorem dX4_leastOf_2 : decode cX4_leastOf 2 = .ok (.istore_n 2, 1) := by decide +kernel
theorem dX4_leastOf_3 : decode cX4_leastOf 3 = .ok (.iconst 0, 1) := by decide +kernel
theorem dX4_leastOf_4 : decode cX4_leastOf 4 = .ok (.istore_n 3, 1) := by decide +kernel
theorem dX4_leastOf_5 : decode cX4_leastOf 5 = .ok (.iload_n 3, 1) := by decide +kernel
theorem dX4_leastOf_6 : decode cX4_leastOf 6 = .ok (.iconst 2, 1) := by decide +kernel
theorem dX4_leastOf_7 : decode cX4_leastOf 7 = .ok (.aload_n 0, 1) := by decide +kernel
theorem dX4_leastOf_8 : decode cX4_leastOf 8 = .ok (.getfield 40, 3) := by decide +kernel
theorem dX4_leastOf_11 : decode cX4_leastOf 11 = .ok (.imul, 1) := by decide +kernel
theorem dX4_leastOf_12 : decode cX4_leastOf 12 = .ok (.if_icmp .ge 35, 3) := by decide +kernel
theorem dX4_leastOf_15 : decode cX4_leastOf 15 = .ok (.iload_n 1, 1) := by decide +kernel
theorem dX4_leastOf_16 : decode cX4_leastOf 16 = .ok (.iload_n 3, 1) := by decide +kernel
theorem dX4_leastOf_17 : decode cX4_leastOf 17 = .ok (.iconst 1, 1) := by decide +kernel
theorem dX4_leastOf_18 : decode cX4_leastOf 18 = .ok (.ishr, 1) := by decide +kernel
theorem dX4_leastOf_19 : decode cX4_leastOf 19 = .ok (.ishr, 1) := by decide +kernel
theorem dX4_leastOf_20 : decode cX4_leastOf 20 = .ok (.iconst 1, 1) := by decide +kernel
theorem dX4_leastOf_21 : decode cX4_leastOf 21 = .ok (.iand, 1) := by decide +kernel
theorem dX4_leastOf_22 : decode cX4_leastOf 22 = .ok (.ifCond .eq 19, 3) := by decide +kernel
theorem dX4_leastOf_25 : decode cX4_leastOf 25 = .ok (.iload_n 2, 1) := by decide +kernel
theorem dX4_leastOf_26 : decode cX4_leastOf 26 = .ok (.aload_n 0, 1) := by decide +kernel
theorem dX4_leastOf_27 : decode cX4_leastOf 27 = .ok (.getfield 15, 3) := by decide +kernel
theorem dX4_leastOf_30 : decode cX4_leastOf 30 = .ok (.iload_n 1, 1) := by decide +kernel
theorem dX4_leastOf_31 : decode cX4_leastOf 31 = .ok (.bipush 18, 2) := by decide +kernel
theorem dX4_leastOf_33 : decode cX4_leastOf 33 = .ok (.imul, 1) := by decide +kernel
theorem dX4_leastOf_34 : decode cX4_leastOf 34 = .ok (.iload_n 3, 1) := by decide +kernel
theorem dX4_leastOf_35 : decode cX4_leastOf 35 = .ok (.iadd, 1) := by decide +kernel
theorem dX4_leastOf_36 : decode cX4_leastOf 36 = .ok (.iaload, 1) := by decide +kernel
theorem dX4_leastOf_37 : decode cX4_leastOf 37 = .ok (.invokestatic 93, 3) := by decide +kernel
theorem dX4_leastOf_40 : decode cX4_leastOf 40 = .ok (.istore_n 2, 1) := by decide +kernel
theorem dX4_leastOf_41 : decode cX4_leastOf 41 = .ok (.iinc 3 1, 3) := by decide +kernel
theorem dX4_leastOf_44 : decode cX4_leastOf 44 = .ok (.goto (-39), 3) := by decide +kernel
theorem dX4_leastOf_47 : decode cX4_leastOf 47 = .ok (.iload_n 2, 1) := by decide +kernel
theorem dX4_leastOf_48 : decode cX4_leastOf 48 = .ok (.ireturn, 1) := by decide +kernel
set_option maxRecDepth 20000 in
theorem ggX4_trace_X4_all : GoodIn wsX4_trace wsX4_all := goodIn_r _ [8, 1, 39, 40, 41, 42, 43, 44, 45, 46, 47] (by decide +kernel) (by decide +kernel)
set_option maxRecDepth 20000 in
theorem gX4_trace_X4_all : GoodIn wsX4_trace (wsV RX4 56 RX4 yX4_all wsX4_all) := goodIn_app (goodIn_of _ (by decide +kernel)) ggX4_trace_X4_all
set_option maxRecDepth 20000 in
theorem ggX4_trace_X4_pick : GoodIn wsX4_trace wsX4_pick := goodIn_r _ [12, 13, 14, 1, 15, 16, 17, 18, 19, 20, 21, 22, 23, 24, 25, 26, 27, 28, 29, 30, 31, 32, 33, 34, 35, 36, 7, 37, 38, 39, 40, 41, 42, 43, 44, 45, 46, 47, 48, 49, 50] (by decide +kernel) (by decide +kernel)
set_option maxRecDepth 20000 in
theorem gX4_trace_X4_pick : GoodIn wsX4_trace (wsV RX4 98 RX4 yX4_pick wsX4_pick) := goodIn_app (goodIn_of _ (by decide +kernel)) ggX4_trace_X4_pick
set_option maxRecDepth 20000 in
theorem ggX4_trace_X4_linkCost : GoodIn wsX4_trace wsX4_linkCost := goodIn_r _ [37, 38, 39, 40, 41, 42, 43, 44, 45, 46, 47] (by decide +kernel) (by decide +kernel)
set_option maxRecDepth 20000 in
theorem gX4_trace_X4_linkCost : GoodIn wsX4_trace (wsV RX4 101 RX4 yX4_linkCost wsX4_linkCost) := goodIn_app (goodIn_of _ (by decide +kernel)) ggX4_trace_X4_linkCost
theorem dX4_trace_0 : decode cX4_trace 0 = .ok (.aload_n 0, 1) := by decide +kernel
theorem dX4_trace_1 : decode cX4_trace 1 = .ok (.invokevirtual 56, 3) := by decide +kernel
theorem dX4_trace_4 : decode cX4_trace 4 = .ok (.istore_n 1, 1) := by decide +kernel
theorem dX4_trace_5 : decode cX4_trace 5 = .ok (.iconst (-1), 1) := by decide +kernel
theorem dX4_trace_6 : decode cX4_trace 6 = .ok (.istore_n 2, 1) := by decide +kernel
theorem dX4_trace_7 : decode cX4_trace 7 = .ok (.iconst 0, 1) := by decide +kernel
theorem dX4_trace_8 : decode cX4_trace 8 = .ok (.istore_n 3, 1) := by decide +kernel
theorem dX4_trace_9 : decode cX4_trace 9 = .ok (.aload_n 0, 1) := by decide +kernel
theorem dX4_trace_10 : decode cX4_trace 10 = .ok (.getfield 40, 3) := by decide +kernel
theorem dX4_trace_13 : decode cX4_trace 13 = .ok (.iconst 1, 1) := by decide +kernel
theorem dX4_trace_14 : decode cX4_trace 14 = .ok (.isub, 1) := by decide +kernel
theorem dX4_trace_15 : decode cX4_trace 15 = .ok (.istore 4, 2) := by decide +kernel
theorem dX4_trace_17 : decode cX4_trace 17 = .ok (.iload 4, 2) := by decide +kernel
theorem dX4_trace_19 : decode cX4_trace 19 = .ok (.ifCond .lt 61, 3) := by decide +kernel
theorem dX4_trace_22 : decode cX4_trace 22 = .ok (.aload_n 0, 1) := by decide +kernel
theorem dX4_trace_23 : decode cX4_trace 23 = .ok (.iload_n 1, 1) := by decide +kernel
theorem dX4_trace_24 : decode cX4_trace 24 = .ok (.iload_n 2, 1) := by decide +kernel
theorem dX4_trace_25 : decode cX4_trace 25 = .ok (.iload_n 3, 1) := by decide +kernel
theorem dX4_trace_26 : decode cX4_trace 26 = .ok (.invokevirtual 98, 3) := by decide +kernel
theorem dX4_trace_29 : decode cX4_trace 29 = .ok (.istore 5, 2) := by decide +kernel
theorem dX4_trace_31 : decode cX4_trace 31 = .ok (.aload_n 0, 1) := by decide +kernel
theorem dX4_trace_32 : decode cX4_trace 32 = .ok (.getfield 21, 3) := by decide +kernel
theorem dX4_trace_35 : decode cX4_trace 35 = .ok (.iload 4, 2) := by decide +kernel
theorem dX4_trace_37 : decode cX4_trace 37 = .ok (.iload 5, 2) := by decide +kernel
theorem dX4_trace_39 : decode cX4_trace 39 = .ok (.iastore, 1) := by decide +kernel
theorem dX4_trace_40 : decode cX4_trace 40 = .ok (.iload_n 3, 1) := by decide +kernel
theorem dX4_trace_41 : decode cX4_trace 41 = .ok (.aload_n 0, 1) := by decide +kernel
theorem dX4_trace_42 : decode cX4_trace 42 = .ok (.iload 5, 2) := by decide +kernel
theorem dX4_trace_44 : decode cX4_trace 44 = .ok (.iload_n 2, 1) := by decide +kernel
theorem dX4_trace_45 : decode cX4_trace 45 = .ok (.invokevirtual 101, 3) := by decide +kernel
theorem dX4_trace_48 : decode cX4_trace 48 = .ok (.iload 5, 2) := by decide +kernel
theorem dX4_trace_50 : decode cX4_trace 50 = .ok (.iconst 1, 1) := by decide +kernel
theorem dX4_trace_51 : decode cX4_trace 51 = .ok (.iand, 1) := by decide +kernel
theorem dX4_trace_52 : decode cX4_trace 52 = .ok (.aload_n 0, 1) := by decide +kernel
theorem dX4_trace_53 : decode cX4_trace 53 = .ok (.getfield 45, 3) := by decide +kernel
theorem dX4_trace_56 : decode cX4_trace 56 = .ok (.imul, 1) := by decide +kernel
theorem dX4_trace_57 : decode cX4_trace 57 = .ok (.iadd, 1) := by decide +kernel
theorem dX4_trace_58 : decode cX4_trace 58 = .ok (.iadd, 1) := by decide +kernel
theorem dX4_trace_59 : decode cX4_trace 59 = .ok (.istore_n 3, 1) := by decide +kernel
theorem dX4_trace_60 : decode cX4_trace 60 = .ok (.iload_n 1, 1) := by decide +kernel
theorem dX4_trace_61 : decode cX4_trace 61 = .ok (.iconst 1, 1) := by decide +kernel
theorem dX4_trace_62 : decode cX4_trace 62 = .ok (.iload 5, 2) := by decide +kernel
theorem dX4_trace_64 : decode cX4_trace 64 = .ok (.iconst 1, 1) := by decide +kernel
theorem dX4_trace_65 : decode cX4_trace 65 = .ok (.ishr, 1) := by decide +kernel
theorem dX4_trace_66 : decode cX4_trace 66 = .ok (.ishl, 1) := by decide +kernel
theorem dX4_trace_67 : decode cX4_trace 67 = .ok (.iconst (-1), 1) := by decide +kernel
theorem dX4_trace_68 : decode cX4_trace 68 = .ok (.ixor, 1) := by decide +kernel
theorem dX4_trace_69 : decode cX4_trace 69 = .ok (.iand, 1) := by decide +kernel
theorem dX4_trace_70 : decode cX4_trace 70 = .ok (.istore_n 1, 1) := by decide +kernel
theorem dX4_trace_71 : decode cX4_trace 71 = .ok (.iload 5, 2) := by decide +kernel
theorem dX4_trace_73 : decode cX4_trace 73 = .ok (.istore_n 2, 1) := by decide +kernel
theorem dX4_trace_74 : decode cX4_trace 74 = .ok (.iinc 4 (-1), 3) := by decide +kernel
theorem dX4_trace_77 : decode cX4_trace 77 = .ok (.goto (-60), 3) := by decide +kernel
theorem dX4_trace_80 : decode cX4_trace 80 = .ok (.return_, 1) := by decide +kernel
set_option maxRecDepth 20000 in
theorem ggX4_pick_X2_neighboursOf : GoodIn wsX4_pick wsX2_neighboursOf := goodIn_r _ [14, 15, 16, 17, 18, 19, 20, 21, 22, 38, 39, 40] (by decide +kernel) (by decide +kernel)
set_option maxRecDepth 20000 in
theorem gX4_pick_X2_neighboursOf : GoodIn wsX4_pick (wsV RX4 77 RX2 yX2_neighboursOf wsX2_neighboursOf) := goodIn_app (goodIn_of _ (by decide +kernel)) ggX4_pick_X2_neighboursOf
set_option maxRecDepth 20000 in
theorem ggX4_pick_X4_linkCost : GoodIn wsX4_pick wsX4_linkCost := goodIn_r _ [27, 28, 29, 30, 31, 32, 33, 34, 35, 36, 37] (by decide +kernel) (by decide +kernel)
set_option maxRecDepth 20000 in
theorem gX4_pick_X4_linkCost : GoodIn wsX4_pick (wsV RX4 101 RX4 yX4_linkCost wsX4_linkCost) := goodIn_app (goodIn_of _ (by decide +kernel)) ggX4_pick_X4_linkCost
theorem dX4_pick_0 : decode cX4_pick 0 = .ok (.iload_n 2, 1) := by decide +kernel
theorem dX4_pick_1 : decode cX4_pick 1 = .ok (.iconst (-1), 1) := by decide +kernel
theorem dX4_pick_2 : decode cX4_pick 2 = .ok (.if_icmp .ne 7, 3) := by decide +kernel
theorem dX4_pick_5 : decode cX4_pick 5 = .ok (.iload_n 1, 1) := by decide +kernel
theorem dX4_pick_6 : decode cX4_pick 6 = .ok (.goto 14, 3) := by decide +kernel
theorem dX4_pick_9 : decode cX4_pick 9 = .ok (.aload_n 0, 1) := by decide +kernel
theorem dX4_pick_10 : decode cX4_pick 10 = .ok (.getfield 24, 3) := by decide +kernel
theorem dX4_pick_13 : decode cX4_pick 13 = .ok (.iload_n 2, 1) := by decide +kernel
theorem dX4_pick_14 : decode cX4_pick 14 = .ok (.iconst 1, 1) := by decide +kernel
theorem dX4_pick_15 : decode cX4_pick 15 = .ok (.ishr, 1) := by decide +kernel
theorem dX4_pick_16 : decode cX4_pick 16 = .ok (.iload_n 1, 1) := by decide +kernel
theorem dX4_pick_17 : decode cX4_pick 17 = .ok (.invokevirtual 77, 3) := by decide +kernel
theorem dX4_pick_20 : decode cX4_pick 20 = .ok (.istore 4, 2) := by decide +kernel
theorem dX4_pick_22 : decode cX4_pick 22 = .ok (.iconst 0, 1) := by decide +kernel
theorem dX4_pick_23 : decode cX4_pick 23 = .ok (.istore 5, 2) := by decide +kernel
theorem dX4_pick_25 : decode cX4_pick 25 = .ok (.ldc 44, 2) := by decide +kernel
theorem dX4_pick_27 : decode cX4_pick 27 = .ok (.istore 6, 2) := by decide +kernel
theorem dX4_pick_29 : decode cX4_pick 29 = .ok (.iconst 0, 1) := by decide +kernel
theorem dX4_pick_30 : decode cX4_pick 30 = .ok (.istore 7, 2) := by decide +kernel
theorem dX4_pick_32 : decode cX4_pick 32 = .ok (.iload 7, 2) := by decide +kernel
theorem dX4_pick_34 : decode cX4_pick 34 = .ok (.iconst 2, 1) := by decide +kernel
theorem dX4_pick_35 : decode cX4_pick 35 = .ok (.aload_n 0, 1) := by decide +kernel
theorem dX4_pick_36 : decode cX4_pick 36 = .ok (.getfield 40, 3) := by decide +kernel
theorem dX4_pick_39 : decode cX4_pick 39 = .ok (.imul, 1) := by decide +kernel
theorem dX4_pick_40 : decode cX4_pick 40 = .ok (.if_icmp .ge 89, 3) := by decide +kernel
theorem dX4_pick_43 : decode cX4_pick 43 = .ok (.iload 4, 2) := by decide +kernel
theorem dX4_pick_45 : decode cX4_pick 45 = .ok (.iload 7, 2) := by decide +kernel
theorem dX4_pick_47 : decode cX4_pick 47 = .ok (.iconst 1, 1) := by decide +kernel
theorem dX4_pick_48 : decode cX4_pick 48 = .ok (.ishr, 1) := by decide +kernel
theorem dX4_pick_49 : decode cX4_pick 49 = .ok (.ishr, 1) := by decide +kernel
theorem dX4_pick_50 : decode cX4_pick 50 = .ok (.iconst 1, 1) := by decide +kernel
theorem dX4_pick_51 : decode cX4_pick 51 = .ok (.iand, 1) := by decide +kernel
theorem dX4_pick_52 : decode cX4_pick 52 = .ok (.ifCond .eq 71, 3) := by decide +kernel
theorem dX4_pick_55 : decode cX4_pick 55 = .ok (.aload_n 0, 1) := by decide +kernel
theorem dX4_pick_56 : decode cX4_pick 56 = .ok (.getfield 15, 3) := by decide +kernel
theorem dX4_pick_59 : decode cX4_pick 59 = .ok (.iload_n 1, 1) := by decide +kernel
theorem dX4_pick_60 : decode cX4_pick 60 = .ok (.bipush 18, 2) := by decide +kernel
theorem dX4_pick_62 : decode cX4_pick 62 = .ok (.imul, 1) := by decide +kernel
theorem dX4_pick_63 : decode cX4_pick 63 = .ok (.iload 7, 2) := by decide +kernel
theorem dX4_pick_65 : decode cX4_pick 65 = .ok (.iadd, 1) := by decide +kernel
theorem dX4_pick_66 : decode cX4_pick 66 = .ok (.iaload, 1) := by decide +kernel
theorem dX4_pick_67 : decode cX4_pick 67 = .ok (.aload_n 0, 1) := by decide +kernel
theorem dX4_pick_68 : decode cX4_pick 68 = .ok (.iload 7, 2) := by decide +kernel
theorem dX4_pick_70 : decode cX4_pick 70 = .ok (.iload_n 2, 1) := by decide +kernel
theorem dX4_pick_71 : decode cX4_pick 71 = .ok (.invokevirtual 101, 3) := by decide +kernel
theorem dX4_pick_74 : decode cX4_pick 74 = .ok (.iadd, 1) := by decide +kernel
theorem dX4_pick_75 : decode cX4_pick 75 = .ok (.iload_n 3, 1) := by decide +kernel
theorem dX4_pick_76 : decode cX4_pick 76 = .ok (.iadd, 1) := by decide +kernel
theorem dX4_pick_77 : decode cX4_pick 77 = .ok (.istore 8, 2) := by decide +kernel
theorem dX4_pick_79 : decode cX4_pick 79 = .ok (.iload 8, 2) := by decide +kernel
theorem dX4_pick_81 : decode cX4_pick 81 = .ok (.iload 6, 2) := by decide +kernel
theorem dX4_pick_83 : decode cX4_pick 83 = .ok (.if_icmp .ge 27, 3) := by decide +kernel
theorem dX4_pick_86 : decode cX4_pick 86 = .ok (.aload_n 0, 1) := by decide +kernel
theorem dX4_pick_87 : decode cX4_pick 87 = .ok (.aload_n 0, 1) := by decide +kernel
theorem dX4_pick_88 : decode cX4_pick 88 = .ok (.getfield 67, 3) := by decide +kernel
theorem dX4_pick_91 : decode cX4_pick 91 = .ok (.iload 6, 2) := by decide +kernel
theorem dX4_pick_93 : decode cX4_pick 93 = .ok (.invokestatic 93, 3) := by decide +kernel
theorem dX4_pick_96 : decode cX4_pick 96 = .ok (.putfield 67, 3) := by decide +kernel
theorem dX4_pick_99 : decode cX4_pick 99 = .ok (.iload 7, 2) := by decide +kernel
theorem dX4_pick_101 : decode cX4_pick 101 = .ok (.istore 5, 2) := by decide +kernel
theorem dX4_pick_103 : decode cX4_pick 103 = .ok (.iload 8, 2) := by decide +kernel
theorem dX4_pick_105 : decode cX4_pick 105 = .ok (.istore 6, 2) := by decide +kernel
theorem dX4_pick_107 : decode cX4_pick 107 = .ok (.goto 16, 3) := by decide +kernel
theorem dX4_pick_110 : decode cX4_pick 110 = .ok (.aload_n 0, 1) := by decide +kernel
theorem dX4_pick_111 : decode cX4_pick 111 = .ok (.aload_n 0, 1) := by decide +kernel
theorem dX4_pick_112 : decode cX4_pick 112 = .ok (.getfield 67, 3) := by decide +kernel
theorem dX4_pick_115 : decode cX4_pick 115 = .ok (.iload 8, 2) := by decide +kernel
theorem dX4_pick_117 : decode cX4_pick 117 = .ok (.invokestatic 93, 3) := by decide +kernel
theorem dX4_pick_120 : decode cX4_pick 120 = .ok (.putfield 67, 3) := by decide +kernel
theorem dX4_pick_123 : decode cX4_pick 123 = .ok (.iinc 7 1, 3) := by decide +kernel
theorem dX4_pick_126 : decode cX4_pick 126 = .ok (.goto (-94), 3) := by decide +kernel
theorem dX4_pick_129 : decode cX4_pick 129 = .ok (.iload 5, 2) := by decide +kernel
theorem dX4_pick_131 : decode cX4_pick 131 = .ok (.ireturn, 1) := by decide +kernel
theorem dX4_linkCost_0 : decode cX4_linkCost 0 = .ok (.iload_n 2, 1) := by decide +kernel
theorem dX4_linkCost_1 : decode cX4_linkCost 1 = .ok (.iconst (-1), 1) := by decide +kernel
theorem dX4_linkCost_2 : decode cX4_linkCost 2 = .ok (.if_icmp .ne 7, 3) := by decide +kernel
theorem dX4_linkCost_5 : decode cX4_linkCost 5 = .ok (.iconst 0, 1) := by decide +kernel
theorem dX4_linkCost_6 : decode cX4_linkCost 6 = .ok (.goto 14, 3) := by decide +kernel
theorem dX4_linkCost_9 : decode cX4_linkCost 9 = .ok (.aload_n 0, 1) := by decide +kernel
theorem dX4_linkCost_10 : decode cX4_linkCost 10 = .ok (.getfield 9, 3) := by decide +kernel
theorem dX4_linkCost_13 : decode cX4_linkCost 13 = .ok (.iload_n 1, 1) := by decide +kernel
theorem dX4_linkCost_14 : decode cX4_linkCost 14 = .ok (.bipush 18, 2) := by decide +kernel
theorem dX4_linkCost_16 : decode cX4_linkCost 16 = .ok (.imul, 1) := by decide +kernel
theorem dX4_linkCost_17 : decode cX4_linkCost 17 = .ok (.iload_n 2, 1) := by decide +kernel
theorem dX4_linkCost_18 : decode cX4_linkCost 18 = .ok (.iadd, 1) := by decide +kernel
theorem dX4_linkCost_19 : decode cX4_linkCost 19 = .ok (.iaload, 1) := by decide +kernel
theorem dX4_linkCost_20 : decode cX4_linkCost 20 = .ok (.ireturn, 1) := by decide +kernel
theorem dX4_isInBest_0 : decode cX4_isInBest 0 = .ok (.iconst 1, 1) := by decide +kernel
theorem dX4_isInBest_1 : decode cX4_isInBest 1 = .ok (.istore_n 3, 1) := by decide +kernel
theorem dX4_isInBest_2 : decode cX4_isInBest 2 = .ok (.iload_n 3, 1) := by decide +kernel
theorem dX4_isInBest_3 : decode cX4_isInBest 3 = .ok (.aload_n 0, 1) := by decide +kernel
theorem dX4_isInBest_4 : decode cX4_isInBest 4 = .ok (.getfield 40, 3) := by decide +kernel
theorem dX4_isInBest_7 : decode cX4_isInBest 7 = .ok (.if_icmp .ge 37, 3) := by decide +kernel
theorem dX4_isInBest_10 : decode cX4_isInBest 10 = .ok (.aload_n 0, 1) := by decide +kernel
theorem dX4_isInBest_11 : decode cX4_isInBest 11 = .ok (.getfield 21, 3) := by decide +kernel
theorem dX4_isInBest_14 : decode cX4_isInBest 14 = .ok (.iload_n 3, 1) := by decide +kernel
theorem dX4_isInBest_15 : decode cX4_isInBest 15 = .ok (.iconst 1, 1) := by decide +kernel
theorem dX4_isInBest_16 : decode cX4_isInBest 16 = .ok (.isub, 1) := by decide +kernel
theorem dX4_isInBest_17 : decode cX4_isInBest 17 = .ok (.iaload, 1) := by decide +kernel
theorem dX4_isInBest_18 : decode cX4_isInBest 18 = .ok (.iconst 1, 1) := by decide +kernel
theorem dX4_isInBest_19 : decode cX4_isInBest 19 = .ok (.ishr, 1) := by decide +kernel
theorem dX4_isInBest_20 : decode cX4_isInBest 20 = .ok (.iload_n 1, 1) := by decide +kernel
theorem dX4_isInBest_21 : decode cX4_isInBest 21 = .ok (.if_icmp .ne 17, 3) := by decide +kernel
theorem dX4_isInBest_24 : decode cX4_isInBest 24 = .ok (.aload_n 0, 1) := by decide +kernel
theorem dX4_isInBest_25 : decode cX4_isInBest 25 = .ok (.getfield 21, 3) := by decide +kernel
theorem dX4_isInBest_28 : decode cX4_isInBest 28 = .ok (.iload_n 3, 1) := by decide +kernel
theorem dX4_isInBest_29 : decode cX4_isInBest 29 = .ok (.iaload, 1) := by decide +kernel
theorem dX4_isInBest_30 : decode cX4_isInBest 30 = .ok (.iconst 1, 1) := by decide +kernel
theorem dX4_isInBest_31 : decode cX4_isInBest 31 = .ok (.ishr, 1) := by decide +kernel
theorem dX4_isInBest_32 : decode cX4_isInBest 32 = .ok (.iload_n 2, 1) := by decide +kernel
theorem dX4_isInBest_33 : decode cX4_isInBest 33 = .ok (.if_icmp .ne 5, 3) := by decide +kernel
theorem dX4_isInBest_36 : decode cX4_isInBest 36 = .ok (.iconst 1, 1) := by decide +kernel
theorem dX4_isInBest_37 : decode cX4_isInBest 37 = .ok (.ireturn, 1) := by decide +kernel
theorem dX4_isInBest_38 : decode cX4_isInBest 38 = .ok (.iinc 3 1, 3) := by decide +kernel
theorem dX4_isInBest_41 : decode cX4_isInBest 41 = .ok (.goto (-39), 3) := by decide +kernel
theorem dX4_isInBest_44 : decode cX4_isInBest 44 = .ok (.iconst 0, 1) := by decide +kernel
theorem dX4_isInBest_45 : decode cX4_isInBest 45 = .ok (.ireturn, 1) := by decide +kernel
set_option maxRecDepth 20000 in
theorem ggX5_init_X1_init : GoodIn wsX5_init wsX1_init := goodIn_r _ [27, 28, 2, 3, 29, 30, 31, 32, 33, 34, 35, 62, 63, 64, 65, 66, 67, 68] (by decide +kernel) (by decide +kernel)
set_option maxRecDepth 20000 in
theorem gX5_init_X1_init_n11 : GoodIn wsX5_init (wsX1_init) := ggX5_init_X1_init
set_option maxRecDepth 20000 in
theorem ggX5_init_X3_init : GoodIn wsX5_init wsX3_init := goodIn_r _ [38, 39, 2, 3, 29, 40, 41, 76, 77] (by decide +kernel) (by decide +kernel)
set_option maxRecDepth 20000 in
theorem gX5_init_X3_init : GoodIn wsX5_init (wsX3_init) := ggX5_init_X3_init
set_option maxRecDepth 20000 in
theorem ggX5_init_X2_init : GoodIn wsX5_init wsX2_init := goodIn_r _ [43, 44, 2, 3, 29, 45, 46, 47, 78, 79, 80] (by decide +kernel) (by decide +kernel)
set_option maxRecDepth 20000 in
theorem gX5_init_X2_init_n27 : GoodIn wsX5_init (wsX2_init) := ggX5_init_X2_init
set_option maxRecDepth 20000 in
theorem ggX5_init_X4_init : GoodIn wsX5_init wsX4_init := goodIn_r _ [50, 51, 2, 3, 29, 52, 53, 54, 55, 56, 81, 82, 83, 84, 85, 86, 87, 88, 89] (by decide +kernel) (by decide +kernel)
set_option maxRecDepth 20000 in
theorem gX5_init_X4_init : GoodIn wsX5_init (wsX4_init) := ggX5_init_X4_init
set_option maxRecDepth 20000 in
theorem ggX5_init_X0_init : GoodIn wsX5_init wsX0_init := goodIn_r _ [59, 60, 2, 3, 61, 90, 91, 92] (by decide +kernel) (by decide +kernel)
set_option maxRecDepth 20000 in
theorem gX5_init_X0_init : GoodIn wsX5_init (wsX0_init) := ggX5_init_X0_init
theorem dJ6_bitCount_0f7a4_0 : decode cJ6_bitCount_0f7a4 0 = .ok (.iload_n 0, 1) := by decide +kernel
theorem dJ6_bitCount_0f7a4_1 : decode cJ6_bitCount_0f7a4 1 = .ok (.iload_n 0, 1) := by decide +kernel
theorem dJ6_bitCount_0f7a4_2 : decode cJ6_bitCount_0f7a4 2 = .ok (.iconst 1, 1) := by decide +kernel
theorem dJ6_bitCount_0f7a4_3 : decode cJ6_bitCount_0f7a4 3 = .ok (.iushr, 1) := by decide +kernel
theorem dJ6_bitCount_0f7a4_4 : decode cJ6_bitCount_0f7a4 4 = .ok (.ldc_w 265, 3) := by decide +kernel
theorem dJ6_bitCount_0f7a4_7 : decode cJ6_bitCount_0f7a4 7 = .ok (.iand, 1) := by decide +kernel
theorem dJ6_bitCount_0f7a4_8 : decode cJ6_bitCount_0f7a4 8 = .ok (.isub, 1) := by decide +kernel
theorem dJ6_bitCount_0f7a4_9 : decode cJ6_bitCount_0f7a4 9 = .ok (.istore_n 0, 1) := by decide +kernel
theorem dJ6_bitCount_0f7a4_10 : decode cJ6_bitCount_0f7a4 10 = .ok (.iload_n 0, 1) := by decide +kernel
theorem dJ6_bitCount_0f7a4_11 : decode cJ6_bitCount_0f7a4 11 = .ok (.ldc_w 266, 3) := by decide +kernel
theorem dJ6_bitCount_0f7a4_14 : decode cJ6_bitCount_0f7a4 14 = .ok (.iand, 1) := by decide +kernel
theorem dJ6_bitCount_0f7a4_15 : decode cJ6_bitCount_0f7a4 15 = .ok (.iload_n 0, 1) := by decide +kernel
theorem dJ6_bitCount_0f7a4_16 : decode cJ6_bitCount_0f7a4 16 = .ok (.iconst 2, 1) := by decide +kernel
theorem dJ6_bitCount_0f7a4_17 : decode cJ6_bitCount_0f7a4 17 = .ok (.iushr, 1) := by decide +kernel
theorem dJ6_bitCount_0f7a4_18 : decode cJ6_bitCount_0f7a4 18 = .ok (.ldc_w 266, 3) := by decide +kernel
theorem dJ6_bitCount_0f7a4_21 : decode cJ6_bitCount_0f7a4 21 = .ok (.iand, 1) := by decide +kernel
theorem dJ6_bitCount_0f7a4_22 : decode cJ6_bitCount_0f7a4 22 = .ok (.iadd, 1) := by decide +kernel
theorem dJ6_bitCount_0f7a4_23 : decode cJ6_bitCount_0f7a4 23 = .ok (.istore_n 0, 1) := by decide +kernel
theorem dJ6_bitCount_0f7a4_24 : decode cJ6_bitCount_0f7a4 24 = .ok (.iload_n 0, 1) := by decide +kernel
theorem dJ6_bitCount_0f7a4_25 : decode cJ6_bitCount_0f7a4 25 = .ok (.iload_n 0, 1) := by decide +kernel
theorem dJ6_bitCount_0f7a4_26 : decode cJ6_bitCount_0f7a4 26 = .ok (.iconst 4, 1) := by decide +kernel
theorem dJ6_bitCount_0f7a4_27 : decode cJ6_bitCount_0f7a4 27 = .ok (.iushr, 1) := by decide +kernel
theorem dJ6_bitCount_0f7a4_28 : decode cJ6_bitCount_0f7a4 28 = .ok (.iadd, 1) := by decide +kernel
theorem dJ6_bitCount_0f7a4_29 : decode cJ6_bitCount_0f7a4 29 = .ok (.ldc_w 267, 3) := by decide +kernel
theorem dJ6_bitCount_0f7a4_32 : decode cJ6_bitCount_0f7a4 32 = .ok (.iand, 1) := by decide +kernel
theorem dJ6_bitCount_0f7a4_33 : decode cJ6_bitCount_0f7a4 33 = .ok (.istore_n 0, 1) := by decide +kernel
theorem dJ6_bitCount_0f7a4_34 : decode cJ6_bitCount_0f7a4 34 = .ok (.iload_n 0, 1) := by decide +kernel
theorem dJ6_bitCount_0f7a4_35 : decode cJ6_bitCount_0f7a4 35 = .ok (.iload_n 0, 1) := by decide +kernel
theorem dJ6_bitCount_0f7a4_36 : decode cJ6_bitCount_0f7a4 36 = .ok (.bipush 8, 2) := by decide +kernel
theorem dJ6_bitCount_0f7a4_38 : decode cJ6_bitCount_0f7a4 38 = .ok (.iushr, 1) := by decide +kernel
theorem dJ6_bitCount_0f7a4_39 : decode cJ6_bitCount_0f7a4 39 = .ok (.iadd, 1) := by decide +kernel
theorem dJ6_bitCount_0f7a4_40 : decode cJ6_bitCount_0f7a4 40 = .ok (.istore_n 0, 1) := by decide +kernel
theorem dJ6_bitCount_0f7a4_41 : decode cJ6_bitCount_0f7a4 41 = .ok (.iload_n 0, 1) := by decide +kernel
theorem dJ6_bitCount_0f7a4_42 : decode cJ6_bitCount_0f7a4 42 = .ok (.iload_n 0, 1) := by decide +kernel
theorem dJ6_bitCount_0f7a4_43 : decode cJ6_bitCount_0f7a4 43 = .ok (.bipush 16, 2) := by decide +kernel
theorem dJ6_bitCount_0f7a4_45 : decode cJ6_bitCount_0f7a4 45 = .ok (.iushr, 1) := by decide +kernel
theorem dJ6_bitCount_0f7a4_46 : decode cJ6_bitCount_0f7a4 46 = .ok (.iadd, 1) := by decide +kernel
theorem dJ6_bitCount_0f7a4_47 : decode cJ6_bitCount_0f7a4 47 = .ok (.istore_n 0, 1) := by decide +kernel
theorem dJ6_bitCount_0f7a4_48 : decode cJ6_bitCount_0f7a4 48 = .ok (.iload_n 0, 1) := by decide +kernel
theorem dJ6_bitCount_0f7a4_49 : decode cJ6_bitCount_0f7a4 49 = .ok (.bipush 63, 2) := by decide +kernel
theorem dJ6_bitCount_0f7a4_51 : decode cJ6_bitCount_0f7a4 51 = .ok (.iand, 1) := by decide +kernel
theorem dJ6_bitCount_0f7a4_52 : decode cJ6_bitCount_0f7a4 52 = .ok (.ireturn, 1) := by decide +kernel
theorem dJ9_abs_0f7a4_0 : decode cJ9_abs_0f7a4 0 = .ok (.iload_n 0, 1) := by decide +kernel
theorem dJ9_abs_0f7a4_1 : decode cJ9_abs_0f7a4 1 = .ok (.ifCond .ge 8, 3) := by decide +kernel
theorem dJ9_abs_0f7a4_4 : decode cJ9_abs_0f7a4 4 = .ok (.iload_n 0, 1) := by decide +kernel
theorem dJ9_abs_0f7a4_5 : decode cJ9_abs_0f7a4 5 = .ok (.ineg, 1) := by decide +kernel
theorem dJ9_abs_0f7a4_6 : decode cJ9_abs_0f7a4 6 = .ok (.goto 4, 3) := by decide +kernel
theorem dJ9_abs_0f7a4_9 : decode cJ9_abs_0f7a4 9 = .ok (.iload_n 0, 1) := by decide +kernel
theorem dJ9_abs_0f7a4_10 : decode cJ9_abs_0f7a4 10 = .ok (.ireturn, 1) := by decide +kernel
theorem dJ9_min_7cf53_0 : decode cJ9_min_7cf53 0 = .ok (.iload_n 0, 1) := by decide +kernel
theorem dJ9_min_7cf53_1 : decode cJ9_min_7cf53 1 = .ok (.iload_n 1, 1) := by decide +kernel
theorem dJ9_min_7cf53_2 : decode cJ9_min_7cf53 2 = .ok (.if_icmp .gt 7, 3) := by decide +kernel
theorem dJ9_min_7cf53_5 : decode cJ9_min_7cf53 5 = .ok (.iload_n 0, 1) := by decide +kernel
theorem dJ9_min_7cf53_6 : decode cJ9_min_7cf53 6 = .ok (.goto 4, 3) := by decide +kernel
theorem dJ9_min_7cf53_9 : decode cJ9_min_7cf53 9 = .ok (.iload_n 1, 1) := by decide +kernel
theorem dJ9_min_7cf53_10 : decode cJ9_min_7cf53 10 = .ok (.ireturn, 1) := by decide +kernel
