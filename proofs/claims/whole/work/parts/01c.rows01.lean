theorem dX0_init_0 : decode cX0_init 0 = .ok (.aload_n 0, 1) := by decide +kernel
theorem dX0_init_1 : decode cX0_init 1 = .ok (.invokespecial 3, 3) := by decide +kernel
theorem dX0_init_4 : decode cX0_init 4 = .ok (.aload_n 0, 1) := by decide +kernel
theorem dX0_init_5 : decode cX0_init 5 = .ok (.bipush 6, 2) := by decide +kernel
theorem dX0_init_7 : decode cX0_init 7 = .ok (.newarray .int, 2) := by decide +kernel
theorem dX0_init_9 : decode cX0_init 9 = .ok (.putfield 9, 3) := by decide +kernel
theorem dX0_init_12 : decode cX0_init 12 = .ok (.aload_n 0, 1) := by decide +kernel
theorem dX0_init_13 : decode cX0_init 13 = .ok (.bipush 6, 2) := by decide +kernel
theorem dX0_init_15 : decode cX0_init 15 = .ok (.newarray .int, 2) := by decide +kernel
theorem dX0_init_17 : decode cX0_init 17 = .ok (.putfield 15, 3) := by decide +kernel
theorem dX0_init_20 : decode cX0_init 20 = .ok (.aload_n 0, 1) := by decide +kernel
theorem dX0_init_21 : decode cX0_init 21 = .ok (.bipush 6, 2) := by decide +kernel
theorem dX0_init_23 : decode cX0_init 23 = .ok (.newarray .int, 2) := by decide +kernel
theorem dX0_init_25 : decode cX0_init 25 = .ok (.putfield 18, 3) := by decide +kernel
theorem dX0_init_28 : decode cX0_init 28 = .ok (.aload_n 0, 1) := by decide +kernel
theorem dX0_init_29 : decode cX0_init 29 = .ok (.bipush 6, 2) := by decide +kernel
theorem dX0_init_31 : decode cX0_init 31 = .ok (.newarray .int, 2) := by decide +kernel
theorem dX0_init_33 : decode cX0_init 33 = .ok (.putfield 21, 3) := by decide +kernel
theorem dX0_init_36 : decode cX0_init 36 = .ok (.aload_n 0, 1) := by decide +kernel
theorem dX0_init_37 : decode cX0_init 37 = .ok (.bipush 6, 2) := by decide +kernel
theorem dX0_init_39 : decode cX0_init 39 = .ok (.newarray .int, 2) := by decide +kernel
theorem dX0_init_41 : decode cX0_init 41 = .ok (.putfield 24, 3) := by decide +kernel
theorem dX0_init_44 : decode cX0_init 44 = .ok (.aload_n 0, 1) := by decide +kernel
theorem dX0_init_45 : decode cX0_init 45 = .ok (.iconst 0, 1) := by decide +kernel
theorem dX0_init_46 : decode cX0_init 46 = .ok (.putfield 27, 3) := by decide +kernel
theorem dX0_init_49 : decode cX0_init 49 = .ok (.return_, 1) := by decide +kernel
theorem dX0_empty_0 : decode cX0_empty 0 = .ok (.aload_n 0, 1) := by decide +kernel
theorem dX0_empty_1 : decode cX0_empty 1 = .ok (.iconst 0, 1) := by decide +kernel
theorem dX0_empty_2 : decode cX0_empty 2 = .ok (.putfield 27, 3) := by decide +kernel
theorem dX0_empty_5 : decode cX0_empty 5 = .ok (.return_, 1) := by decide +kernel
theorem dX0_add_0 : decode cX0_add 0 = .ok (.aload_n 0, 1) := by decide +kernel
theorem dX0_add_1 : decode cX0_add 1 = .ok (.getfield 27, 3) := by decide +kernel
theorem dX0_add_4 : decode cX0_add 4 = .ok (.bipush 6, 2) := by decide +kernel
theorem dX0_add_6 : decode cX0_add 6 = .ok (.if_icmp .lt 4, 3) := by decide +kernel
theorem dX0_add_9 : decode cX0_add 9 = .ok (.return_, 1) := by decide +kernel
theorem dX0_add_10 : decode cX0_add 10 = .ok (.aload_n 0, 1) := by decide +kernel
theorem dX0_add_11 : decode cX0_add 11 = .ok (.getfield 9, 3) := by decide +kernel
theorem dX0_add_14 : decode cX0_add 14 = .ok (.aload_n 0, 1) := by decide +kernel
theorem dX0_add_15 : decode cX0_add 15 = .ok (.getfield 27, 3) := by decide +kernel
theorem dX0_add_18 : decode cX0_add 18 = .ok (.iload_n 1, 1) := by decide +kernel
theorem dX0_add_19 : decode cX0_add 19 = .ok (.iastore, 1) := by decide +kernel
theorem dX0_add_20 : decode cX0_add 20 = .ok (.aload_n 0, 1) := by decide +kernel
theorem dX0_add_21 : decode cX0_add 21 = .ok (.getfield 15, 3) := by decide +kernel
theorem dX0_add_24 : decode cX0_add 24 = .ok (.aload_n 0, 1) := by decide +kernel
theorem dX0_add_25 : decode cX0_add 25 = .ok (.getfield 27, 3) := by decide +kernel
theorem dX0_add_28 : decode cX0_add 28 = .ok (.iload_n 2, 1) := by decide +kernel
theorem dX0_add_29 : decode cX0_add 29 = .ok (.iastore, 1) := by decide +kernel
theorem dX0_add_30 : decode cX0_add 30 = .ok (.aload_n 0, 1) := by decide +kernel
theorem dX0_add_31 : decode cX0_add 31 = .ok (.getfield 18, 3) := by decide +kernel
theorem dX0_add_34 : decode cX0_add 34 = .ok (.aload_n 0, 1) := by decide +kernel
theorem dX0_add_35 : decode cX0_add 35 = .ok (.getfield 27, 3) := by decide +kernel
theorem dX0_add_38 : decode cX0_add 38 = .ok (.iload_n 3, 1) := by decide +kernel
theorem dX0_add_39 : decode cX0_add 39 = .ok (.iastore, 1) := by decide +kernel
theorem dX0_add_40 : decode cX0_add 40 = .ok (.aload_n 0, 1) := by decide +kernel
theorem dX0_add_41 : decode cX0_add 41 = .ok (.getfield 21, 3) := by decide +kernel
theorem dX0_add_44 : decode cX0_add 44 = .ok (.aload_n 0, 1) := by decide +kernel
theorem dX0_add_45 : decode cX0_add 45 = .ok (.getfield 27, 3) := by decide +kernel
theorem dX0_add_48 : decode cX0_add 48 = .ok (.iconst 0, 1) := by decide +kernel
theorem dX0_add_49 : decode cX0_add 49 = .ok (.iastore, 1) := by decide +kernel
theorem dX0_add_50 : decode cX0_add 50 = .ok (.aload_n 0, 1) := by decide +kernel
theorem dX0_add_51 : decode cX0_add 51 = .ok (.getfield 24, 3) := by decide +kernel
theorem dX0_add_54 : decode cX0_add 54 = .ok (.aload_n 0, 1) := by decide +kernel
theorem dX0_add_55 : decode cX0_add 55 = .ok (.getfield 27, 3) := by decide +kernel
theorem dX0_add_58 : decode cX0_add 58 = .ok (.iload 4, 2) := by decide +kernel
theorem dX0_add_60 : decode cX0_add 60 = .ok (.iastore, 1) := by decide +kernel
theorem dX0_add_61 : decode cX0_add 61 = .ok (.aload_n 0, 1) := by decide +kernel
theorem dX0_add_62 : decode cX0_add 62 = .ok (.dup, 1) := by decide +kernel
theorem dX0_add_63 : decode cX0_add 63 = .ok (.getfield 27, 3) := by decide +kernel
theorem dX0_add_66 : decode cX0_add 66 = .ok (.iconst 1, 1) := by decide +kernel
theorem dX0_add_67 : decode cX0_add 67 = .ok (.iadd, 1) := by decide +kernel
theorem dX0_add_68 : decode cX0_add 68 = .ok (.putfield 27, 3) := by decide +kernel
theorem dX0_add_71 : decode cX0_add 71 = .ok (.return_, 1) := by decide +kernel
set_option maxRecDepth 20000 in
theorem ggX0_flowOver_X0_direction : GoodIn wsX0_flowOver wsX0_direction := goodIn_r _ [8] (by decide +kernel) (by decide +kernel)
set_option maxRecDepth 20000 in
theorem gX0_flowOver_X0_direction : GoodIn wsX0_flowOver (va_wsS RX0 31 yX0_direction wsX0_direction) := goodIn_app (goodIn_of _ (by decide +kernel)) ggX0_flowOver_X0_direction
theorem dX0_flowOver_0 : decode cX0_flowOver 0 = .ok (.iconst 0, 1) := by decide +kernel
theorem dX0_flowOver_1 : decode cX0_flowOver 1 = .ok (.istore_n 2, 1) := by decide +kernel
theorem dX0_flowOver_2 : decode cX0_flowOver 2 = .ok (.iconst 0, 1) := by decide +kernel
theorem dX0_flowOver_3 : decode cX0_flowOver 3 = .ok (.istore_n 3, 1) := by decide +kernel
theorem dX0_flowOver_4 : decode cX0_flowOver 4 = .ok (.iload_n 3, 1) := by decide +kernel
theorem dX0_flowOver_5 : decode cX0_flowOver 5 = .ok (.aload_n 0, 1) := by decide +kernel
theorem dX0_flowOver_6 : decode cX0_flowOver 6 = .ok (.getfield 27, 3) := by decide +kernel
theorem dX0_flowOver_9 : decode cX0_flowOver 9 = .ok (.if_icmp .ge 35, 3) := by decide +kernel
theorem dX0_flowOver_12 : decode cX0_flowOver 12 = .ok (.iload_n 2, 1) := by decide +kernel
theorem dX0_flowOver_13 : decode cX0_flowOver 13 = .ok (.aload_n 0, 1) := by decide +kernel
theorem dX0_flowOver_14 : decode cX0_flowOver 14 = .ok (.getfield 9, 3) := by decide +kernel
theorem dX0_flowOver_17 : decode cX0_flowOver 17 = .ok (.iload_n 3, 1) := by decide +kernel
theorem dX0_flowOver_18 : decode cX0_flowOver 18 = .ok (.iaload, 1) := by decide +kernel
theorem dX0_flowOver_19 : decode cX0_flowOver 19 = .ok (.aload_n 0, 1) := by decide +kernel
theorem dX0_flowOver_20 : decode cX0_flowOver 20 = .ok (.getfield 15, 3) := by decide +kernel
theorem dX0_flowOver_23 : decode cX0_flowOver 23 = .ok (.iload_n 3, 1) := by decide +kernel
theorem dX0_flowOver_24 : decode cX0_flowOver 24 = .ok (.iaload, 1) := by decide +kernel
theorem dX0_flowOver_25 : decode cX0_flowOver 25 = .ok (.iload_n 1, 1) := by decide +kernel
theorem dX0_flowOver_26 : decode cX0_flowOver 26 = .ok (.invokestatic 31, 3) := by decide +kernel
theorem dX0_flowOver_29 : decode cX0_flowOver 29 = .ok (.aload_n 0, 1) := by decide +kernel
theorem dX0_flowOver_30 : decode cX0_flowOver 30 = .ok (.getfield 18, 3) := by decide +kernel
theorem dX0_flowOver_33 : decode cX0_flowOver 33 = .ok (.iload_n 3, 1) := by decide +kernel
theorem dX0_flowOver_34 : decode cX0_flowOver 34 = .ok (.iaload, 1) := by decide +kernel
theorem dX0_flowOver_35 : decode cX0_flowOver 35 = .ok (.imul, 1) := by decide +kernel
theorem dX0_flowOver_36 : decode cX0_flowOver 36 = .ok (.iadd, 1) := by decide +kernel
theorem dX0_flowOver_37 : decode cX0_flowOver 37 = .ok (.istore_n 2, 1) := by decide +kernel
theorem dX0_flowOver_38 : decode cX0_flowOver 38 = .ok (.iinc 3 1, 3) := by decide +kernel
theorem dX0_flowOver_41 : decode cX0_flowOver 41 = .ok (.goto (-37), 3) := by decide +kernel
theorem dX0_flowOver_44 : decode cX0_flowOver 44 = .ok (.iload_n 2, 1) := by decide +kernel
theorem dX0_flowOver_45 : decode cX0_flowOver 45 = .ok (.ireturn, 1) := by decide +kernel
set_option maxRecDepth 20000 in
theorem ggX0_cutOver_X0_flowOver : GoodIn wsX0_cutOver wsX0_flowOver := goodIn_r _ [17, 5, 6, 7, 8, 18, 19, 16, 20, 21, 22, 23, 24, 25, 26] (by decide +kernel) (by decide +kernel)
set_option maxRecDepth 20000 in
theorem gX0_cutOver_X0_flowOver : GoodIn wsX0_cutOver (wsV RX0 35 RX0 yX0_flowOver wsX0_flowOver) := goodIn_app (goodIn_of _ (by decide +kernel)) ggX0_cutOver_X0_flowOver
set_option maxRecDepth 20000 in
theorem ggX0_cutOver_X0_direction : GoodIn wsX0_cutOver wsX0_direction := goodIn_r _ [20] (by decide +kernel) (by decide +kernel)
set_option maxRecDepth 20000 in
theorem gX0_cutOver_X0_direction : GoodIn wsX0_cutOver (va_wsS RX0 31 yX0_direction wsX0_direction) := goodIn_app (goodIn_of _ (by decide +kernel)) ggX0_cutOver_X0_direction
theorem dX0_cutOver_0 : decode cX0_cutOver 0 = .ok (.aload_n 0, 1) := by decide +kernel
theorem dX0_cutOver_1 : decode cX0_cutOver 1 = .ok (.iload_n 1, 1) := by decide +kernel
theorem dX0_cutOver_2 : decode cX0_cutOver 2 = .ok (.invokevirtual 35, 3) := by decide +kernel
theorem dX0_cutOver_5 : decode cX0_cutOver 5 = .ok (.istore_n 3, 1) := by decide +kernel
theorem dX0_cutOver_6 : decode cX0_cutOver 6 = .ok (.iload_n 3, 1) := by decide +kernel
theorem dX0_cutOver_7 : decode cX0_cutOver 7 = .ok (.invokestatic 39, 3) := by decide +kernel
theorem dX0_cutOver_10 : decode cX0_cutOver 10 = .ok (.iload_n 2, 1) := by decide +kernel
theorem dX0_cutOver_11 : decode cX0_cutOver 11 = .ok (.isub, 1) := by decide +kernel
theorem dX0_cutOver_12 : decode cX0_cutOver 12 = .ok (.istore 4, 2) := by decide +kernel
theorem dX0_cutOver_14 : decode cX0_cutOver 14 = .ok (.iload 4, 2) := by decide +kernel
theorem dX0_cutOver_16 : decode cX0_cutOver 16 = .ok (.ifCond .gt 5, 3) := by decide +kernel
theorem dX0_cutOver_19 : decode cX0_cutOver 19 = .ok (.iconst 0, 1) := by decide +kernel
theorem dX0_cutOver_20 : decode cX0_cutOver 20 = .ok (.ireturn, 1) := by decide +kernel
theorem dX0_cutOver_21 : decode cX0_cutOver 21 = .ok (.iload_n 3, 1) := by decide +kernel
theorem dX0_cutOver_22 : decode cX0_cutOver 22 = .ok (.ifCond .le 7, 3) := by decide +kernel
theorem dX0_cutOver_25 : decode cX0_cutOver 25 = .ok (.iconst 1, 1) := by decide +kernel
theorem dX0_cutOver_26 : decode cX0_cutOver 26 = .ok (.goto 4, 3) := by decide +kernel
theorem dX0_cutOver_29 : decode cX0_cutOver 29 = .ok (.iconst (-1), 1) := by decide +kernel
theorem dX0_cutOver_30 : decode cX0_cutOver 30 = .ok (.istore 5, 2) := by decide +kernel
theorem dX0_cutOver_32 : decode cX0_cutOver 32 = .ok (.aload_n 0, 1) := by decide +kernel
theorem dX0_cutOver_33 : decode cX0_cutOver 33 = .ok (.getfield 27, 3) := by decide +kernel
theorem dX0_cutOver_36 : decode cX0_cutOver 36 = .ok (.iconst 1, 1) := by decide +kernel
theorem dX0_cutOver_37 : decode cX0_cutOver 37 = .ok (.isub, 1) := by decide +kernel
theorem dX0_cutOver_38 : decode cX0_cutOver 38 = .ok (.istore 6, 2) := by decide +kernel
theorem dX0_cutOver_40 : decode cX0_cutOver 40 = .ok (.iload 6, 2) := by decide +kernel
theorem dX0_cutOver_42 : decode cX0_cutOver 42 = .ok (.ifCond .lt 82, 3) := by decide +kernel
theorem dX0_cutOver_45 : decode cX0_cutOver 45 = .ok (.iload 4, 2) := by decide +kernel
theorem dX0_cutOver_47 : decode cX0_cutOver 47 = .ok (.ifCond .le 77, 3) := by decide +kernel
theorem dX0_cutOver_50 : decode cX0_cutOver 50 = .ok (.aload_n 0, 1) := by decide +kernel
theorem dX0_cutOver_51 : decode cX0_cutOver 51 = .ok (.getfield 9, 3) := by decide +kernel
theorem dX0_cutOver_54 : decode cX0_cutOver 54 = .ok (.iload 6, 2) := by decide +kernel
theorem dX0_cutOver_56 : decode cX0_cutOver 56 = .ok (.iaload, 1) := by decide +kernel
theorem dX0_cutOver_57 : decode cX0_cutOver 57 = .ok (.aload_n 0, 1) := by decide +kernel
theorem dX0_cutOver_58 : decode cX0_cutOver 58 = .ok (.getfield 15, 3) := by decide +kernel
theorem dX0_cutOver_61 : decode cX0_cutOver 61 = .ok (.iload 6, 2) := by decide +kernel
theorem dX0_cutOver_63 : decode cX0_cutOver 63 = .ok (.iaload, 1) := by decide +kernel
theorem dX0_cutOver_64 : decode cX0_cutOver 64 = .ok (.iload_n 1, 1) := by decide +kernel
theorem dX0_cutOver_65 : decode cX0_cutOver 65 = .ok (.invokestatic 31, 3) := by decide +kernel
theorem dX0_cutOver_68 : decode cX0_cutOver 68 = .ok (.iload 5, 2) := by decide +kernel
theorem dX0_cutOver_70 : decode cX0_cutOver 70 = .ok (.if_icmp .ne 48, 3) := by decide +kernel
theorem dX0_cutOver_73 : decode cX0_cutOver 73 = .ok (.aload_n 0, 1) := by decide +kernel
theorem dX0_cutOver_74 : decode cX0_cutOver 74 = .ok (.getfield 18, 3) := by decide +kernel
theorem dX0_cutOver_77 : decode cX0_cutOver 77 = .ok (.iload 6, 2) := by decide +kernel
theorem dX0_cutOver_79 : decode cX0_cutOver 79 = .ok (.iaload, 1) := by decide +kernel
theorem dX0_cutOver_80 : decode cX0_cutOver 80 = .ok (.iload 4, 2) := by decide +kernel
theorem dX0_cutOver_82 : decode cX0_cutOver 82 = .ok (.invokestatic 44, 3) := by decide +kernel
theorem dX0_cutOver_85 : decode cX0_cutOver 85 = .ok (.istore 7, 2) := by decide +kernel
theorem dX0_cutOver_87 : decode cX0_cutOver 87 = .ok (.aload_n 0, 1) := by decide +kernel
theorem dX0_cutOver_88 : decode cX0_cutOver 88 = .ok (.getfield 18, 3) := by decide +kernel
theorem dX0_cutOver_91 : decode cX0_cutOver 91 = .ok (.iload 6, 2) := by decide +kernel
theorem dX0_cutOver_93 : decode cX0_cutOver 93 = .ok (.dup2, 1) := by decide +kernel
theorem dX0_cutOver_94 : decode cX0_cutOver 94 = .ok (.iaload, 1) := by decide +kernel
theorem dX0_cutOver_95 : decode cX0_cutOver 95 = .ok (.iload 7, 2) := by decide +kernel
theorem dX0_cutOver_97 : decode cX0_cutOver 97 = .ok (.isub, 1) := by decide +kernel
theorem dX0_cutOver_98 : decode cX0_cutOver 98 = .ok (.iastore, 1) := by decide +kernel
theorem dX0_cutOver_99 : decode cX0_cutOver 99 = .ok (.aload_n 0, 1) := by decide +kernel
theorem dX0_cutOver_100 : decode cX0_cutOver 100 = .ok (.getfield 21, 3) := by decide +kernel
theorem dX0_cutOver_103 : decode cX0_cutOver 103 = .ok (.iload 6, 2) := by decide +kernel
theorem dX0_cutOver_105 : decode cX0_cutOver 105 = .ok (.dup2, 1) := by decide +kernel
theorem dX0_cutOver_106 : decode cX0_cutOver 106 = .ok (.iaload, 1) := by decide +kernel
theorem dX0_cutOver_107 : decode cX0_cutOver 107 = .ok (.iload 7, 2) := by decide +kernel
theorem dX0_cutOver_109 : decode cX0_cutOver 109 = .ok (.iadd, 1) := by decide +kernel
theorem dX0_cutOver_110 : decode cX0_cutOver 110 = .ok (.iastore, 1) := by decide +kernel
theorem dX0_cutOver_111 : decode cX0_cutOver 111 = .ok (.iload 4, 2) := by decide +kernel
theorem dX0_cutOver_113 : decode cX0_cutOver 113 = .ok (.iload 7, 2) := by decide +kernel
theorem dX0_cutOver_115 : decode cX0_cutOver 115 = .ok (.isub, 1) := by decide +kernel
theorem dX0_cutOver_116 : decode cX0_cutOver 116 = .ok (.istore 4, 2) := by decide +kernel
theorem dX0_cutOver_118 : decode cX0_cutOver 118 = .ok (.iinc 6 (-1), 3) := by decide +kernel
theorem dX0_cutOver_121 : decode cX0_cutOver 121 = .ok (.goto (-81), 3) := by decide +kernel
theorem dX0_cutOver_124 : decode cX0_cutOver 124 = .ok (.iconst 1, 1) := by decide +kernel
theorem dX0_cutOver_125 : decode cX0_cutOver 125 = .ok (.ireturn, 1) := by decide +kernel
theorem dX0_direction_0 : decode cX0_direction 0 = .ok (.iload_n 0, 1) := by decide +kernel
theorem dX0_direction_1 : decode cX0_direction 1 = .ok (.iload_n 2, 1) := by decide +kernel
theorem dX0_direction_2 : decode cX0_direction 2 = .ok (.if_icmp .gt 10, 3) := by decide +kernel
theorem dX0_direction_5 : decode cX0_direction 5 = .ok (.iload_n 2, 1) := by decide +kernel
theorem dX0_direction_6 : decode cX0_direction 6 = .ok (.iload_n 1, 1) := by decide +kernel
theorem dX0_direction_7 : decode cX0_direction 7 = .ok (.if_icmp .ge 5, 3) := by decide +kernel
theorem dX0_direction_10 : decode cX0_direction 10 = .ok (.iconst 1, 1) := by decide +kernel
theorem dX0_direction_11 : decode cX0_direction 11 = .ok (.ireturn, 1) := by decide +kernel
theorem dX0_direction_12 : decode cX0_direction 12 = .ok (.iload_n 1, 1) := by decide +kernel
theorem dX0_direction_13 : decode cX0_direction 13 = .ok (.iload_n 2, 1) := by decide +kernel
theorem dX0_direction_14 : decode cX0_direction 14 = .ok (.if_icmp .gt 10, 3) := by decide +kernel
theorem dX0_direction_17 : decode cX0_direction 17 = .ok (.iload_n 2, 1) := by decide +kernel
theorem dX0_direction_18 : decode cX0_direction 18 = .ok (.iload_n 0, 1) := by decide +kernel
theorem dX0_direction_19 : decode cX0_direction 19 = .ok (.if_icmp .ge 5, 3) := by decide +kernel
theorem dX0_direction_22 : decode cX0_direction 22 = .ok (.iconst (-1), 1) := by decide +kernel
theorem dX0_direction_23 : decode cX0_direction 23 = .ok (.ireturn, 1) := by decide +kernel
theorem dX0_direction_24 : decode cX0_direction 24 = .ok (.iconst 0, 1) := by decide +kernel
theorem dX0_direction_25 : decode cX0_direction 25 = .ok (.ireturn, 1) := by decide +kernel
set_option maxRecDepth 20000 in
theorem ggX1_init_X0_init : GoodIn wsX1_init wsX0_init := goodIn_r _ [27, 28, 2, 3, 6, 29, 30, 31, 32, 33, 34, 52, 53, 54, 55, 56, 57] (by decide +kernel) (by decide +kernel)
set_option maxRecDepth 20000 in
theorem gX1_init_X0_init_n46 : GoodIn wsX1_init (wsX0_init) := ggX1_init_X0_init
theorem dX1_init_0 : decode cX1_init 0 = .ok (.aload_n 0, 1) := by decide +kernel
theorem dX1_init_1 : decode cX1_init 1 = .ok (.invokespecial 3, 3) := by decide +kernel
theorem dX1_init_4 : decode cX1_init 4 = .ok (.aload_n 0, 1) := by decide +kernel
theorem dX1_init_5 : decode cX1_init 5 = .ok (.bipush 6, 2) := by decide +kernel
theorem dX1_init_7 : decode cX1_init 7 = .ok (.newarray .boolean, 2) := by decide +kernel
theorem dX1_init_9 : decode cX1_init 9 = .ok (.putfield 9, 3) := by decide +kernel
theorem dX1_init_12 : decode cX1_init 12 = .ok (.aload_n 0, 1) := by decide +kernel
theorem dX1_init_13 : decode cX1_init 13 = .ok (.bipush 6, 2) := by decide +kernel
theorem dX1_init_15 : decode cX1_init 15 = .ok (.newarray .int, 2) := by decide +kernel
theorem dX1_init_17 : decode cX1_init 17 = .ok (.putfield 13, 3) := by decide +kernel
theorem dX1_init_20 : decode cX1_init 20 = .ok (.aload_n 0, 1) := by decide +kernel
theorem dX1_init_21 : decode cX1_init 21 = .ok (.bipush 6, 2) := by decide +kernel
theorem dX1_init_23 : decode cX1_init 23 = .ok (.newarray .int, 2) := by decide +kernel
theorem dX1_init_25 : decode cX1_init 25 = .ok (.putfield 17, 3) := by decide +kernel
theorem dX1_init_28 : decode cX1_init 28 = .ok (.aload_n 0, 1) := by decide +kernel
theorem dX1_init_29 : decode cX1_init 29 = .ok (.bipush 6, 2) := by decide +kernel
theorem dX1_init_31 : decode cX1_init 31 = .ok (.newarray .int, 2) := by decide +kernel
theorem dX1_init_33 : decode cX1_init 33 = .ok (.putfield 20, 3) := by decide +kernel
theorem dX1_init_36 : decode cX1_init 36 = .ok (.aload_n 0, 1) := by decide +kernel
theorem dX1_init_37 : decode cX1_init 37 = .ok (.bipush 6, 2) := by decide +kernel
theorem dX1_init_39 : decode cX1_init 39 = .ok (.newarray .int, 2) := by decide +kernel
theorem dX1_init_41 : decode cX1_init 41 = .ok (.putfield 23, 3) := by decide +kernel
theorem dX1_init_44 : decode cX1_init 44 = .ok (.aload_n 0, 1) := by decide +kernel
theorem dX1_init_45 : decode cX1_init 45 = .ok (.bipush 6, 2) := by decide +kernel
theorem dX1_init_47 : decode cX1_init 47 = .ok (.newarray .int, 2) := by decide +kernel
theorem dX1_init_49 : decode cX1_init 49 = .ok (.putfield 26, 3) := by decide +kernel
theorem dX1_init_52 : decode cX1_init 52 = .ok (.aload_n 0, 1) := by decide +kernel
theorem dX1_init_53 : decode cX1_init 53 = .ok (.bipush 6, 2) := by decide +kernel
theorem dX1_init_55 : decode cX1_init 55 = .ok (.newarray .int, 2) := by decide +kernel
theorem dX1_init_57 : decode cX1_init 57 = .ok (.putfield 29, 3) := by decide +kernel
theorem dX1_init_60 : decode cX1_init 60 = .ok (.aload_n 0, 1) := by decide +kernel
theorem dX1_init_61 : decode cX1_init 61 = .ok (.bipush 6, 2) := by decide +kernel
theorem dX1_init_63 : decode cX1_init 63 = .ok (.newarray .int, 2) := by decide +kernel
theorem dX1_init_65 : decode cX1_init 65 = .ok (.putfield 32, 3) := by decide +kernel
theorem dX1_init_68 : decode cX1_init 68 = .ok (.aload_n 0, 1) := by decide +kernel
theorem dX1_init_69 : decode cX1_init 69 = .ok (.iconst 5, 1) := by decide +kernel
theorem dX1_init_70 : decode cX1_init 70 = .ok (.newarray .int, 2) := by decide +kernel
theorem dX1_init_72 : decode cX1_init 72 = .ok (.putfield 35, 3) := by decide +kernel
theorem dX1_init_75 : decode cX1_init 75 = .ok (.aload_n 0, 1) := by decide +kernel
theorem dX1_init_76 : decode cX1_init 76 = .ok (.iconst 5, 1) := by decide +kernel
theorem dX1_init_77 : decode cX1_init 77 = .ok (.newarray .int, 2) := by decide +kernel
theorem dX1_init_79 : decode cX1_init 79 = .ok (.putfield 38, 3) := by decide +kernel
theorem dX1_init_82 : decode cX1_init 82 = .ok (.aload_n 0, 1) := by decide +kernel
theorem dX1_init_83 : decode cX1_init 83 = .ok (.bipush 6, 2) := by decide +kernel
theorem dX1_init_85 : decode cX1_init 85 = .ok (.newarray .int, 2) := by decide +kernel
theorem dX1_init_87 : decode cX1_init 87 = .ok (.putfield 41, 3) := by decide +kernel
theorem dX1_init_90 : decode cX1_init 90 = .ok (.aload_n 0, 1) := by decide +kernel
theorem dX1_init_91 : decode cX1_init 91 = .ok (.new 44, 3) := by decide +kernel
theorem dX1_init_94 : decode cX1_init 94 = .ok (.dup, 1) := by decide +kernel
theorem dX1_init_95 : decode cX1_init 95 = .ok (.invokespecial 46, 3) := by decide +kernel
theorem dX1_init_98 : decode cX1_init 98 = .ok (.putfield 47, 3) := by decide +kernel
theorem dX1_init_101 : decode cX1_init 101 = .ok (.aload_n 0, 1) := by decide +kernel
theorem dX1_init_102 : decode cX1_init 102 = .ok (.bipush 30, 2) := by decide +kernel
theorem dX1_init_104 : decode cX1_init 104 = .ok (.putfield 51, 3) := by decide +kernel
theorem dX1_init_107 : decode cX1_init 107 = .ok (.aload_n 0, 1) := by decide +kernel
theorem dX1_init_108 : decode cX1_init 108 = .ok (.iconst 4, 1) := by decide +kernel
theorem dX1_init_109 : decode cX1_init 109 = .ok (.putfield 55, 3) := by decide +kernel
theorem dX1_init_112 : decode cX1_init 112 = .ok (.aload_n 0, 1) := by decide +kernel
theorem dX1_init_113 : decode cX1_init 113 = .ok (.iconst 0, 1) := by decide +kernel
theorem dX1_init_114 : decode cX1_init 114 = .ok (.putfield 58, 3) := by decide +kernel
theorem dX1_init_117 : decode cX1_init 117 = .ok (.aload_n 0, 1) := by decide +kernel
theorem dX1_init_118 : decode cX1_init 118 = .ok (.iconst 0, 1) := by decide +kernel
theorem dX1_init_119 : decode cX1_init 119 = .ok (.putfield 61, 3) := by decide +kernel
theorem dX1_init_122 : decode cX1_init 122 = .ok (.aload_n 0, 1) := by decide +kernel
theorem dX1_init_123 : decode cX1_init 123 = .ok (.iconst 0, 1) := by decide +kernel
theorem dX1_init_124 : decode cX1_init 124 = .ok (.putfield 64, 3) := by decide +kernel
theorem dX1_init_127 : decode cX1_init 127 = .ok (.iconst 0, 1) := by decide +kernel
theorem dX1_init_128 : decode cX1_init 128 = .ok (.istore_n 1, 1) := by decide +kernel
theorem dX1_init_129 : decode cX1_init 129 = .ok (.iload_n 1, 1) := by decide +kernel
theorem dX1_init_130 : decode cX1_init 130 = .ok (.bipush 6, 2) := by decide +kernel
theorem dX1_init_132 : decode cX1_init 132 = .ok (.if_icmp .ge 32, 3) := by decide +kernel
theorem dX1_init_135 : decode cX1_init 135 = .ok (.aload_n 0, 1) := by decide +kernel
theorem dX1_init_136 : decode cX1_init 136 = .ok (.getfield 9, 3) := by decide +kernel
theorem dX1_init_139 : decode cX1_init 139 = .ok (.iload_n 1, 1) := by decide +kernel
theorem dX1_init_140 : decode cX1_init 140 = .ok (.iconst 1, 1) := by decide +kernel
theorem dX1_init_141 : decode cX1_init 141 = .ok (.bastore, 1) := by decide +kernel
theorem dX1_init_142 : decode cX1_init 142 = .ok (.aload_n 0, 1) := by decide +kernel
theorem dX1_init_143 : decode cX1_init 143 = .ok (.getfield 20, 3) := by decide +kernel
theorem dX1_init_146 : decode cX1_init 146 = .ok (.iload_n 1, 1) := by decide +kernel
theorem dX1_init_147 : decode cX1_init 147 = .ok (.bipush 10, 2) := by decide +kernel
theorem dX1_init_149 : decode cX1_init 149 = .ok (.iastore, 1) := by decide +kernel
theorem dX1_init_150 : decode cX1_init 150 = .ok (.aload_n 0, 1) := by decide +kernel
theorem dX1_init_151 : decode cX1_init 151 = .ok (.getfield 23, 3) := by decide +kernel
theorem dX1_init_154 : decode cX1_init 154 = .ok (.iload_n 1, 1) := by decide +kernel
theorem dX1_init_155 : decode cX1_init 155 = .ok (.bipush 20, 2) := by decide +kernel
theorem dX1_init_157 : decode cX1_init 157 = .ok (.iastore, 1) := by decide +kernel
theorem dX1_init_158 : decode cX1_init 158 = .ok (.iinc 1 1, 3) := by decide +kernel
theorem dX1_init_161 : decode cX1_init 161 = .ok (.goto (-32), 3) := by decide +kernel
theorem dX1_init_164 : decode cX1_init 164 = .ok (.iconst 0, 1) := by decide +kernel
theorem dX1_init_165 : decode cX1_init 165 = .ok (.istore_n 1, 1) := by decide +kernel
theorem dX1_init_166 : decode cX1_init 166 = .ok (.iload_n 1, 1) := by decide +kernel
theorem dX1_init_167 : decode cX1_init 167 = .ok (.iconst 5, 1) := by decide +kernel
theorem dX1_init_168 : decode cX1_init 168 = .ok (.if_icmp .ge 17, 3) := by decide +kernel
theorem dX1_init_171 : decode cX1_init 171 = .ok (.aload_n 0, 1) := by decide +kernel
theorem dX1_init_172 : decode cX1_init 172 = .ok (.getfield 35, 3) := by decide +kernel
theorem dX1_init_175 : decode cX1_init 175 = .ok (.iload_n 1, 1) := by decide +kernel
theorem dX1_init_176 : decode cX1_init 176 = .ok (.bipush 100, 2) := by decide +kernel
theorem dX1_init_178 : decode cX1_init 178 = .ok (.iastore, 1) := by decide +kernel
theorem dX1_init_179 : decode cX1_init 179 = .ok (.iinc 1 1, 3) := by decide +kernel
theorem dX1_init_182 : decode cX1_init 182 = .ok (.goto (-16), 3) := by decide +kernel
theorem dX1_init_185 : decode cX1_init 185 = .ok (.return_, 1) := by decide +kernel
set_option maxRecDepth 20000 in
theorem ggX1_forecast_X1_checkHouse : GoodIn wsX1_forecast wsX1_checkHouse := goodIn_ca (goodIn_r _ [5, 6, 7] (by decide +kernel) (by decide +kernel)) (goodIn_sub (fun _ h => List.mem_cons_of_mem _ (List.mem_append_left _ (List.mem_append_left _ (List.mem_append_right _ h)))) (by decide +kernel))
set_option maxRecDepth 20000 in
theorem gX1_forecast_X1_checkHouse : GoodIn wsX1_forecast (va_wsS RX1 67 yX1_checkHouse wsX1_checkHouse) := goodIn_app (goodIn_of _ (by decide +kernel)) ggX1_forecast_X1_checkHouse
set_option maxRecDepth 20000 in
theorem ggX1_forecast_X1_checkRange : GoodIn wsX1_forecast wsX1_checkRange := goodIn_ca (goodIn_r _ [10, 11, 12] (by decide +kernel) (by decide +kernel)) (goodIn_sub (fun _ h => List.mem_cons_of_mem _ (List.mem_append_left _ (List.mem_append_right _ h))) (by decide +kernel))
set_option maxRecDepth 20000 in
theorem gX1_forecast_X1_checkRange : GoodIn wsX1_forecast (va_wsS RX1 71 yX1_checkRange wsX1_checkRange) := goodIn_app (goodIn_of _ (by decide +kernel)) ggX1_forecast_X1_checkRange
set_option maxRecDepth 20000 in
theorem ggX1_forecast_X1_checkMember : GoodIn wsX1_forecast wsX1_checkMember := goodIn_ca (goodIn_r _ [16, 17, 18, 19, 20, 21, 22, 23, 24, 25, 26, 27, 28, 29, 30, 31, 32, 33, 34, 35, 36] (by decide +kernel) (by decide +kernel)) (goodIn_sub (fun _ h => List.mem_cons_of_mem _ (List.mem_append_right _ h)) (by decide +kernel))
set_option maxRecDepth 20000 in
theorem gX1_forecast_X1_checkMember : GoodIn wsX1_forecast (wsV RX1 75 RX1 yX1_checkMember wsX1_checkMember) := goodIn_app (goodIn_of _ (by decide +kernel)) ggX1_forecast_X1_checkMember
theorem dX1_forecast_0 : decode cX1_forecast 0 = .ok (.iload_n 1, 1) := by decide +kernel
theorem dX1_forecast_1 : decode cX1_forecast 1 = .ok (.invokestatic 67, 3) := by decide +kernel
theorem dX1_forecast_4 : decode cX1_forecast 4 = .ok (.iload_n 2, 1) := by decide +kernel
theorem dX1_forecast_5 : decode cX1_forecast 5 = .ok (.bipush (-50), 2) := by decide +kernel
theorem dX1_forecast_7 : decode cX1_forecast 7 = .ok (.bipush 50, 2) := by decide +kernel
theorem dX1_forecast_9 : decode cX1_forecast 9 = .ok (.invokestatic 71, 3) := by decide +kernel
theorem dX1_forecast_12 : decode cX1_forecast 12 = .ok (.aload_n 0, 1) := by decide +kernel
theorem dX1_forecast_13 : decode cX1_forecast 13 = .ok (.iload_n 1, 1) := by decide +kernel
theorem dX1_forecast_14 : decode cX1_forecast 14 = .ok (.invokevirtual 75, 3) := by decide +kernel
theorem dX1_forecast_17 : decode cX1_forecast 17 = .ok (.aload_n 0, 1) := by decide +kernel
theorem dX1_forecast_18 : decode cX1_forecast 18 = .ok (.getfield 13, 3) := by decide +kernel
theorem dX1_forecast_21 : decode cX1_forecast 21 = .ok (.iload_n 1, 1) := by decide +kernel
theorem dX1_forecast_22 : decode cX1_forecast 22 = .ok (.iaload, 1) := by decide +kernel
theorem dX1_forecast_23 : decode cX1_forecast 23 = .ok (.istore_n 3, 1) := by decide +kernel
theorem dX1_forecast_24 : decode cX1_forecast 24 = .ok (.aload_n 0, 1) := by decide +kernel
theorem dX1_forecast_25 : decode cX1_forecast 25 = .ok (.getfield 13, 3) := by decide +kernel
theorem dX1_forecast_28 : decode cX1_forecast 28 = .ok (.iload_n 1, 1) := by decide +kernel
theorem dX1_forecast_29 : decode cX1_forecast 29 = .ok (.iload_n 2, 1) := by decide +kernel
theorem dX1_forecast_30 : decode cX1_forecast 30 = .ok (.iastore, 1) := by decide +kernel
theorem dX1_forecast_31 : decode cX1_forecast 31 = .ok (.iload_n 3, 1) := by decide +kernel
theorem dX1_forecast_32 : decode cX1_forecast 32 = .ok (.ireturn, 1) := by decide +kernel
set_option maxRecDepth 20000 in
theorem ggX1_meter_X1_checkHouse : GoodIn wsX1_meter wsX1_checkHouse := goodIn_ca (goodIn_r _ [5, 6, 7] (by decide +kernel) (by decide +kernel)) (goodIn_sub (fun _ h => List.mem_cons_of_mem _ (List.mem_append_left _ (List.mem_append_left _ (List.mem_append_right _ h)))) (by decide +kernel))
set_option maxRecDepth 20000 in
theorem gX1_meter_X1_checkHouse : GoodIn wsX1_meter (va_wsS RX1 67 yX1_checkHouse wsX1_checkHouse) := goodIn_app (goodIn_of _ (by decide +kernel)) ggX1_meter_X1_checkHouse
set_option maxRecDepth 20000 in
theorem ggX1_meter_X1_checkRange : GoodIn wsX1_meter wsX1_checkRange := goodIn_ca (goodIn_r _ [10, 11, 12] (by decide +kernel) (by decide +kernel)) (goodIn_sub (fun _ h => List.mem_cons_of_mem _ (List.mem_append_left _ (List.mem_append_right _ h))) (by decide +kernel))
set_option maxRecDepth 20000 in
theorem gX1_meter_X1_checkRange : GoodIn wsX1_meter (va_wsS RX1 71 yX1_checkRange wsX1_checkRange) := goodIn_app (goodIn_of _ (by decide +kernel)) ggX1_meter_X1_checkRange
set_option maxRecDepth 20000 in
theorem ggX1_meter_X1_checkMember : GoodIn wsX1_meter wsX1_checkMember := goodIn_ca (goodIn_r _ [16, 17, 18, 19, 20, 21, 22, 23, 24, 25, 26, 27, 28, 29, 30, 31, 32, 33, 34, 35, 36] (by decide +kernel) (by decide +kernel)) (goodIn_sub (fun _ h => List.mem_cons_of_mem _ (List.mem_append_right _ h)) (by decide +kernel))
set_option maxRecDepth 20000 in
theorem gX1_meter_X1_checkMember : GoodIn wsX1_meter (wsV RX1 75 RX1 yX1_checkMember wsX1_checkMember) := goodIn_app (goodIn_of _ (by decide +kernel)) ggX1_meter_X1_checkMember
theorem dX1_meter_0 : decode cX1_meter 0 = .ok (.iload_n 1, 1) := by decide +kernel
theorem dX1_meter_1 : decode cX1_meter 1 = .ok (.invokestatic 67, 3) := by decide +kernel
theorem dX1_meter_4 : decode cX1_meter 4 = .ok (.iload_n 2, 1) := by decide +kernel
theorem dX1_meter_5 : decode cX1_meter 5 = .ok (.bipush (-50), 2) := by decide +kernel
theorem dX1_meter_7 : decode cX1_meter 7 = .ok (.bipush 50, 2) := by decide +kernel
theorem dX1_meter_9 : decode cX1_meter 9 = .ok (.invokestatic 71, 3) := by decide +kernel
theorem dX1_meter_12 : decode cX1_meter 12 = .ok (.aload_n 0, 1) := by decide +kernel
theorem dX1_meter_13 : decode cX1_meter 13 = .ok (.iload_n 1, 1) := by decide +kernel
theorem dX1_meter_14 : decode cX1_meter 14 = .ok (.invokevirtual 75, 3) := by decide +kernel
theorem dX1_meter_17 : decode cX1_meter 17 = .ok (.aload_n 0, 1) := by decide +kernel
theorem dX1_meter_18 : decode cX1_meter 18 = .ok (.getfield 17, 3) := by decide +kernel
theorem dX1_meter_21 : decode cX1_meter 21 = .ok (.iload_n 1, 1) := by decide +kernel
theorem dX1_meter_22 : decode cX1_meter 22 = .ok (.iaload, 1) := by decide +kernel
theorem dX1_meter_23 : decode cX1_meter 23 = .ok (.istore_n 3, 1) := by decide +kernel
theorem dX1_meter_24 : decode cX1_meter 24 = .ok (.aload_n 0, 1) := by decide +kernel
theorem dX1_meter_25 : decode cX1_meter 25 = .ok (.getfield 17, 3) := by decide +kernel
theorem dX1_meter_28 : decode cX1_meter 28 = .ok (.iload_n 1, 1) := by decide +kernel
theorem dX1_meter_29 : decode cX1_meter 29 = .ok (.iload_n 2, 1) := by decide +kernel
theorem dX1_meter_30 : decode cX1_meter 30 = .ok (.iastore, 1) := by decide +kernel
theorem dX1_meter_31 : decode cX1_meter 31 = .ok (.iload_n 3, 1) := by decide +kernel
theorem dX1_meter_32 : decode cX1_meter 32 = .ok (.ireturn, 1) := by decide +kernel
set_option maxRecDepth 20000 in
theorem ggX1_setPrice_X1_checkHouse : GoodIn wsX1_setPrice wsX1_checkHouse := goodIn_ca (goodIn_r _ [5, 6, 7] (by decide +kernel) (by decide +kernel)) (goodIn_sub (fun _ h => List.mem_cons_of_mem _ (List.mem_append_left _ (List.mem_append_right _ h))) (by decide +kernel))
set_option maxRecDepth 20000 in
theorem gX1_setPrice_X1_checkHouse : GoodIn wsX1_setPrice (va_wsS RX1 67 yX1_checkHouse wsX1_checkHouse) := goodIn_app (goodIn_of _ (by decide +kernel)) ggX1_setPrice_X1_checkHouse
set_option maxRecDepth 20000 in
theorem ggX1_setPrice_X1_checkRange : GoodIn wsX1_setPrice wsX1_checkRange := goodIn_ca (goodIn_r _ [10, 11, 12] (by decide +kernel) (by decide +kernel)) (goodIn_sub (fun _ h => List.mem_cons_of_mem _ (List.mem_append_right _ h)) (by decide +kernel))
set_option maxRecDepth 20000 in
theorem gX1_setPrice_X1_checkRange : GoodIn wsX1_setPrice (va_wsS RX1 71 yX1_checkRange wsX1_checkRange) := goodIn_app (goodIn_of _ (by decide +kernel)) ggX1_setPrice_X1_checkRange
theorem dX1_setPrice_0 : decode cX1_setPrice 0 = .ok (.iload_n 1, 1) := by decide +kernel
theorem dX1_setPrice_1 : decode cX1_setPrice 1 = .ok (.invokestatic 67, 3) := by decide +kernel
theorem dX1_setPrice_4 : decode cX1_setPrice 4 = .ok (.iload_n 2, 1) := by decide +kernel
theorem dX1_setPrice_5 : decode cX1_setPrice 5 = .ok (.iconst 0, 1) := by decide +kernel
theorem dX1_setPrice_6 : decode cX1_setPrice 6 = .ok (.bipush 100, 2) := by decide +kernel
theorem dX1_setPrice_8 : decode cX1_setPrice 8 = .ok (.invokestatic 71, 3) := by decide +kernel
theorem dX1_setPrice_11 : decode cX1_setPrice 11 = .ok (.aload_n 0, 1) := by decide +kernel
theorem dX1_setPrice_12 : decode cX1_setPrice 12 = .ok (.getfield 20, 3) := by decide +kernel
theorem dX1_setPrice_15 : decode cX1_setPrice 15 = .ok (.iload_n 1, 1) := by decide +kernel
theorem dX1_setPrice_16 : decode cX1_setPrice 16 = .ok (.iaload, 1) := by decide +kernel
theorem dX1_setPrice_17 : decode cX1_setPrice 17 = .ok (.istore_n 3, 1) := by decide +kernel
theorem dX1_setPrice_18 : decode cX1_setPrice 18 = .ok (.aload_n 0, 1) := by decide +kernel
theorem dX1_setPrice_19 : decode cX1_setPrice 19 = .ok (.getfield 20, 3) := by decide +kernel
theorem dX1_setPrice_22 : decode cX1_setPrice 22 = .ok (.iload_n 1, 1) := by decide +kernel
theorem dX1_setPrice_23 : decode cX1_setPrice 23 = .ok (.iload_n 2, 1) := by decide +kernel
theorem dX1_setPrice_24 : decode cX1_setPrice 24 = .ok (.iastore, 1) := by decide +kernel
theorem dX1_setPrice_25 : decode cX1_setPrice 25 = .ok (.iload_n 3, 1) := by decide +kernel
theorem dX1_setPrice_26 : decode cX1_setPrice 26 = .ok (.ireturn, 1) := by decide +kernel
set_option maxRecDepth 20000 in
theorem ggX1_setLimit_X1_checkStretch : GoodIn wsX1_setLimit wsX1_checkStretch := goodIn_ca (goodIn_r _ [5, 6, 7] (by decide +kernel) (by decide +kernel)) (goodIn_sub (fun _ h => List.mem_cons_of_mem _ (List.mem_append_left _ (List.mem_append_right _ h))) (by decide +kernel))
set_option maxRecDepth 20000 in
theorem gX1_setLimit_X1_checkStretch : GoodIn wsX1_setLimit (va_wsS RX1 78 yX1_checkStretch wsX1_checkStretch) := goodIn_app (goodIn_of _ (by decide +kernel)) ggX1_setLimit_X1_checkStretch
set_option maxRecDepth 20000 in
theorem ggX1_setLimit_X1_checkRange : GoodIn wsX1_setLimit wsX1_checkRange := goodIn_ca (goodIn_r _ [10, 11, 12] (by decide +kernel) (by decide +kernel)) (goodIn_sub (fun _ h => List.mem_cons_of_mem _ (List.mem_append_right _ h)) (by decide +kernel))
set_option maxRecDepth 20000 in
theorem gX1_setLimit_X1_checkRange : GoodIn wsX1_setLimit (va_wsS RX1 71 yX1_checkRange wsX1_checkRange) := goodIn_app (goodIn_of _ (by decide +kernel)) ggX1_setLimit_X1_checkRange
theorem dX1_setLimit_0 : decode cX1_setLimit 0 = .ok (.iload_n 1, 1) := by decide +kernel
theorem dX1_setLimit_1 : decode cX1_setLimit 1 = .ok (.invokestatic 78, 3) := by decide +kernel
theorem dX1_setLimit_4 : decode cX1_setLimit 4 = .ok (.iload_n 2, 1) := by decide +kernel
theorem dX1_setLimit_5 : decode cX1_setLimit 5 = .ok (.iconst 0, 1) := by decide +kernel
theorem dX1_setLimit_6 : decode cX1_setLimit 6 = .ok (.sipush 300, 3) := by decide +kernel
theorem dX1_setLimit_9 : decode cX1_setLimit 9 = .ok (.invokestatic 71, 3) := by decide +kernel
theorem dX1_setLimit_12 : decode cX1_setLimit 12 = .ok (.aload_n 0, 1) := by decide +kernel
theorem dX1_setLimit_13 : decode cX1_setLimit 13 = .ok (.getfield 35, 3) := by decide +kernel
theorem dX1_setLimit_16 : decode cX1_setLimit 16 = .ok (.iload_n 1, 1) := by decide +kernel
theorem dX1_setLimit_17 : decode cX1_setLimit 17 = .ok (.iaload, 1) := by decide +kernel
theorem dX1_setLimit_18 : decode cX1_setLimit 18 = .ok (.istore_n 3, 1) := by decide +kernel
theorem dX1_setLimit_19 : decode cX1_setLimit 19 = .ok (.aload_n 0, 1) := by decide +kernel
theorem dX1_setLimit_20 : decode cX1_setLimit 20 = .ok (.getfield 35, 3) := by decide +kernel
theorem dX1_setLimit_23 : decode cX1_setLimit 23 = .ok (.iload_n 1, 1) := by decide +kernel
theorem dX1_setLimit_24 : decode cX1_setLimit 24 = .ok (.iload_n 2, 1) := by decide +kernel
theorem dX1_setLimit_25 : decode cX1_setLimit 25 = .ok (.iastore, 1) := by decide +kernel
theorem dX1_setLimit_26 : decode cX1_setLimit 26 = .ok (.iload_n 3, 1) := by decide +kernel
theorem dX1_setLimit_27 : decode cX1_setLimit 27 = .ok (.ireturn, 1) := by decide +kernel
set_option maxRecDepth 20000 in
theorem ggX1_setSupplier_X1_checkRange : GoodIn wsX1_setSupplier wsX1_checkRange := goodIn_ca (goodIn_r _ [6, 7, 8] (by decide +kernel) (by decide +kernel)) (goodIn_sub (fun _ h => List.mem_cons_of_mem _ (List.mem_append_right _ h)) (by decide +kernel))
set_option maxRecDepth 20000 in
theorem gX1_setSupplier_X1_checkRange : GoodIn wsX1_setSupplier (va_wsS RX1 71 yX1_checkRange wsX1_checkRange) := goodIn_app (goodIn_of _ (by decide +kernel)) ggX1_setSupplier_X1_checkRange
theorem dX1_setSupplier_0 : decode cX1_setSupplier 0 = .ok (.iload_n 1, 1) := by decide +kernel
theorem dX1_setSupplier_1 : decode cX1_setSupplier 1 = .ok (.iconst 1, 1) := by decide +kernel
theorem dX1_setSupplier_2 : decode cX1_setSupplier 2 = .ok (.bipush 100, 2) := by decide +kernel
theorem dX1_setSupplier_4 : decode cX1_setSupplier 4 = .ok (.invokestatic 71, 3) := by decide +kernel
theorem dX1_setSupplier_7 : decode cX1_setSupplier 7 = .ok (.iload_n 2, 1) := by decide +kernel
theorem dX1_setSupplier_8 : decode cX1_setSupplier 8 = .ok (.iconst 0, 1) := by decide +kernel
theorem dX1_setSupplier_9 : decode cX1_setSupplier 9 = .ok (.iload_n 1, 1) := by decide +kernel
theorem dX1_setSupplier_10 : decode cX1_setSupplier 10 = .ok (.invokestatic 71, 3) := by decide +kernel
theorem dX1_setSupplier_13 : decode cX1_setSupplier 13 = .ok (.aload_n 0, 1) := by decide +kernel
theorem dX1_setSupplier_14 : decode cX1_setSupplier 14 = .ok (.iload_n 1, 1) := by decide +kernel
theorem dX1_setSupplier_15 : decode cX1_setSupplier 15 = .ok (.putfield 51, 3) := by decide +kernel
theorem dX1_setSupplier_18 : decode cX1_setSupplier 18 = .ok (.aload_n 0, 1) := by decide +kernel
theorem dX1_setSupplier_19 : decode cX1_setSupplier 19 = .ok (.iload_n 2, 1) := by decide +kernel
theorem dX1_setSupplier_20 : decode cX1_setSupplier 20 = .ok (.putfield 55, 3) := by decide +kernel
theorem dX1_setSupplier_23 : decode cX1_setSupplier 23 = .ok (.return_, 1) := by decide +kernel
set_option maxRecDepth 20000 in
theorem ggX1_rent_X1_checkHouse : GoodIn wsX1_rent wsX1_checkHouse := goodIn_ca (goodIn_r _ [10, 11, 12] (by decide +kernel) (by decide +kernel)) (goodIn_sub (fun _ h => List.mem_cons_of_mem _ (List.mem_append_right _ h)) (by decide +kernel))
set_option maxRecDepth 20000 in
theorem gX1_rent_X1_checkHouse : GoodIn wsX1_rent (va_wsS RX1 67 yX1_checkHouse wsX1_checkHouse) := goodIn_app (goodIn_of _ (by decide +kernel)) ggX1_rent_X1_checkHouse
set_option maxRecDepth 20000 in
theorem ggX1_rent_X1_checkRange : GoodIn wsX1_rent wsX1_checkRange := goodIn_ca (goodIn_r _ [15, 1, 2] (by decide +kernel) (by decide +kernel)) (goodIn_sub (fun _ h => List.mem_cons_of_mem _ (List.mem_append_left _ (List.mem_append_left _ (List.mem_append_right _ h)))) (by decide +kernel))
set_option maxRecDepth 20000 in
theorem gX1_rent_X1_checkRange : GoodIn wsX1_rent (va_wsS RX1 71 yX1_checkRange wsX1_checkRange) := goodIn_app (goodIn_of _ (by decide +kernel)) ggX1_rent_X1_checkRange
set_option maxRecDepth 20000 in
theorem ggX1_rent_X1_checkMember : GoodIn wsX1_rent wsX1_checkMember := goodIn_ca (goodIn_r _ [19, 3, 4, 20, 21, 22, 23, 24, 25, 26, 27, 28, 29, 30, 31, 32, 33, 34, 35, 36, 37] (by decide +kernel) (by decide +kernel)) (goodIn_sub (fun _ h => List.mem_cons_of_mem _ (List.mem_append_left _ (List.mem_append_right _ h))) (by decide +kernel))
set_option maxRecDepth 20000 in
theorem gX1_rent_X1_checkMember : GoodIn wsX1_rent (wsV RX1 75 RX1 yX1_checkMember wsX1_checkMember) := goodIn_app (goodIn_of _ (by decide +kernel)) ggX1_rent_X1_checkMember
theorem dX1_rent_0 : decode cX1_rent 0 = .ok (.iload_n 1, 1) := by decide +kernel
theorem dX1_rent_1 : decode cX1_rent 1 = .ok (.invokestatic 67, 3) := by decide +kernel
theorem dX1_rent_4 : decode cX1_rent 4 = .ok (.iload_n 2, 1) := by decide +kernel
theorem dX1_rent_5 : decode cX1_rent 5 = .ok (.invokestatic 67, 3) := by decide +kernel
theorem dX1_rent_8 : decode cX1_rent 8 = .ok (.iload_n 1, 1) := by decide +kernel
theorem dX1_rent_9 : decode cX1_rent 9 = .ok (.iload_n 2, 1) := by decide +kernel
theorem dX1_rent_10 : decode cX1_rent 10 = .ok (.if_icmp .ne 13, 3) := by decide +kernel
theorem dX1_rent_13 : decode cX1_rent 13 = .ok (.new 81, 3) := by decide +kernel
theorem dX1_rent_16 : decode cX1_rent 16 = .ok (.dup, 1) := by decide +kernel
theorem dX1_rent_17 : decode cX1_rent 17 = .ok (.ldc 83, 2) := by decide +kernel
theorem dX1_rent_19 : decode cX1_rent 19 = .ok (.invokespecial 85, 3) := by decide +kernel
theorem dX1_rent_22 : decode cX1_rent 22 = .ok (.athrow, 1) := by decide +kernel
theorem dX1_rent_23 : decode cX1_rent 23 = .ok (.iload_n 3, 1) := by decide +kernel
theorem dX1_rent_24 : decode cX1_rent 24 = .ok (.iconst 1, 1) := by decide +kernel
theorem dX1_rent_25 : decode cX1_rent 25 = .ok (.bipush 100, 2) := by decide +kernel
theorem dX1_rent_27 : decode cX1_rent 27 = .ok (.invokestatic 71, 3) := by decide +kernel
theorem dX1_rent_30 : decode cX1_rent 30 = .ok (.aload_n 0, 1) := by decide +kernel
theorem dX1_rent_31 : decode cX1_rent 31 = .ok (.iload_n 1, 1) := by decide +kernel
theorem dX1_rent_32 : decode cX1_rent 32 = .ok (.invokevirtual 75, 3) := by decide +kernel
theorem dX1_rent_35 : decode cX1_rent 35 = .ok (.aload_n 0, 1) := by decide +kernel
theorem dX1_rent_36 : decode cX1_rent 36 = .ok (.iload_n 2, 1) := by decide +kernel
theorem dX1_rent_37 : decode cX1_rent 37 = .ok (.invokevirtual 75, 3) := by decide +kernel
theorem dX1_rent_40 : decode cX1_rent 40 = .ok (.aload_n 0, 1) := by decide +kernel
theorem dX1_rent_41 : decode cX1_rent 41 = .ok (.getfield 23, 3) := by decide +kernel
theorem dX1_rent_44 : decode cX1_rent 44 = .ok (.iload_n 1, 1) := by decide +kernel
theorem dX1_rent_45 : decode cX1_rent 45 = .ok (.iaload, 1) := by decide +kernel
theorem dX1_rent_46 : decode cX1_rent 46 = .ok (.iload_n 3, 1) := by decide +kernel
theorem dX1_rent_47 : decode cX1_rent 47 = .ok (.isub, 1) := by decide +kernel
theorem dX1_rent_48 : decode cX1_rent 48 = .ok (.aload_n 0, 1) := by decide +kernel
theorem dX1_rent_49 : decode cX1_rent 49 = .ok (.getfield 26, 3) := by decide +kernel
theorem dX1_rent_52 : decode cX1_rent 52 = .ok (.iload_n 1, 1) := by decide +kernel
theorem dX1_rent_53 : decode cX1_rent 53 = .ok (.iaload, 1) := by decide +kernel
theorem dX1_rent_54 : decode cX1_rent 54 = .ok (.if_icmp .ge 13, 3) := by decide +kernel
theorem dX1_rent_57 : decode cX1_rent 57 = .ok (.new 88, 3) := by decide +kernel
theorem dX1_rent_60 : decode cX1_rent 60 = .ok (.dup, 1) := by decide +kernel
theorem dX1_rent_61 : decode cX1_rent 61 = .ok (.ldc 90, 2) := by decide +kernel
theorem dX1_rent_63 : decode cX1_rent 63 = .ok (.invokespecial 92, 3) := by decide +kernel
theorem dX1_rent_66 : decode cX1_rent 66 = .ok (.athrow, 1) := by decide +kernel
theorem dX1_rent_67 : decode cX1_rent 67 = .ok (.aload_n 0, 1) := by decide +kernel
theorem dX1_rent_68 : decode cX1_rent 68 = .ok (.getfield 23, 3) := by decide +kernel
theorem dX1_rent_71 : decode cX1_rent 71 = .ok (.iload_n 1, 1) := by decide +kernel
theorem dX1_rent_72 : decode cX1_rent 72 = .ok (.dup2, 1) := by decide +kernel
theorem dX1_rent_73 : decode cX1_rent 73 = .ok (.iaload, 1) := by decide +kernel
theorem dX1_rent_74 : decode cX1_rent 74 = .ok (.iload_n 3, 1) := by decide +kernel
theorem dX1_rent_75 : decode cX1_rent 75 = .ok (.isub, 1) := by decide +kernel
theorem dX1_rent_76 : decode cX1_rent 76 = .ok (.iastore, 1) := by decide +kernel
theorem dX1_rent_77 : decode cX1_rent 77 = .ok (.aload_n 0, 1) := by decide +kernel
theorem dX1_rent_78 : decode cX1_rent 78 = .ok (.getfield 23, 3) := by decide +kernel
theorem dX1_rent_81 : decode cX1_rent 81 = .ok (.iload_n 2, 1) := by decide +kernel
theorem dX1_rent_82 : decode cX1_rent 82 = .ok (.dup2, 1) := by decide +kernel
theorem dX1_rent_83 : decode cX1_rent 83 = .ok (.iaload, 1) := by decide +kernel
theorem dX1_rent_84 : decode cX1_rent 84 = .ok (.iload_n 3, 1) := by decide +kernel
theorem dX1_rent_85 : decode cX1_rent 85 = .ok (.iadd, 1) := by decide +kernel
theorem dX1_rent_86 : decode cX1_rent 86 = .ok (.iastore, 1) := by decide +kernel
theorem dX1_rent_87 : decode cX1_rent 87 = .ok (.aload_n 0, 1) := by decide +kernel
theorem dX1_rent_88 : decode cX1_rent 88 = .ok (.getfield 23, 3) := by decide +kernel
theorem dX1_rent_91 : decode cX1_rent 91 = .ok (.iload_n 2, 1) := by decide +kernel
theorem dX1_rent_92 : decode cX1_rent 92 = .ok (.iaload, 1) := by decide +kernel
theorem dX1_rent_93 : decode cX1_rent 93 = .ok (.ireturn, 1) := by decide +kernel
set_option maxRecDepth 20000 in
theorem ggX1_leave_X1_checkHouse : GoodIn wsX1_leave wsX1_checkHouse := goodIn_ca (goodIn_r _ [10, 11, 12] (by decide +kernel) (by decide +kernel)) (goodIn_sub (fun _ h => List.mem_cons_of_mem _ (List.mem_append_left _ (List.mem_append_right _ h))) (by decide +kernel))
set_option maxRecDepth 20000 in
theorem gX1_leave_X1_checkHouse : GoodIn wsX1_leave (va_wsS RX1 67 yX1_checkHouse wsX1_checkHouse) := goodIn_app (goodIn_of _ (by decide +kernel)) ggX1_leave_X1_checkHouse
set_option maxRecDepth 20000 in
theorem ggX1_leave_X1_checkMember : GoodIn wsX1_leave wsX1_checkMember := goodIn_ca (goodIn_r _ [16, 17, 18, 3, 25, 26, 27, 28, 29, 30, 31, 32, 33, 34, 35, 36, 37, 38, 39, 40, 41] (by decide +kernel) (by decide +kernel)) (goodIn_sub (fun _ h => List.mem_cons_of_mem _ (List.mem_append_right _ h)) (by decide +kernel))
set_option maxRecDepth 20000 in
theorem gX1_leave_X1_checkMember : GoodIn wsX1_leave (wsV RX1 75 RX1 yX1_checkMember wsX1_checkMember) := goodIn_app (goodIn_of _ (by decide +kernel)) ggX1_leave_X1_checkMember
set_option maxRecDepth 20000 in
theorem ggX1_leave_X1_payPool : GoodIn wsX1_leave wsX1_payPool := goodIn_r _ [22, 23, 24, 25, 26, 27, 28, 29, 30, 31, 32, 33, 34, 35, 36, 37, 38, 39, 40, 41] (by decide +kernel) (by decide +kernel)
set_option maxRecDepth 20000 in
theorem gX1_leave_X1_payPool : GoodIn wsX1_leave (wsV RX1 93 RX1 yX1_payPool wsX1_payPool) := goodIn_app (goodIn_of _ (by decide +kernel)) ggX1_leave_X1_payPool
theorem dX1_leave_0 : decode cX1_leave 0 = .ok (.iload_n 1, 1) := by decide +kernel
theorem dX1_leave_1 : decode cX1_leave 1 = .ok (.invokestatic 67, 3) := by decide +kernel
theorem dX1_leave_4 : decode cX1_leave 4 = .ok (.aload_n 0, 1) := by decide +kernel
theorem dX1_leave_5 : decode cX1_leave 5 = .ok (.iload_n 1, 1) := by decide +kernel
theorem dX1_leave_6 : decode cX1_leave 6 = .ok (.invokevirtual 75, 3) := by decide +kernel
theorem dX1_leave_9 : decode cX1_leave 9 = .ok (.aload_n 0, 1) := by decide +kernel
theorem dX1_leave_10 : decode cX1_leave 10 = .ok (.getfield 26, 3) := by decide +kernel
theorem dX1_leave_13 : decode cX1_leave 13 = .ok (.iload_n 1, 1) := by decide +kernel
theorem dX1_leave_14 : decode cX1_leave 14 = .ok (.iaload, 1) := by decide +kernel
theorem dX1_leave_15 : decode cX1_leave 15 = .ok (.aload_n 0, 1) := by decide +kernel
theorem dX1_leave_16 : decode cX1_leave 16 = .ok (.getfield 55, 3) := by decide +kernel
theorem dX1_leave_19 : decode cX1_leave 19 = .ok (.imul, 1) := by decide +kernel
theorem dX1_leave_20 : decode cX1_leave 20 = .ok (.istore_n 2, 1) := by decide +kernel
theorem dX1_leave_21 : decode cX1_leave 21 = .ok (.aload_n 0, 1) := by decide +kernel
theorem dX1_leave_22 : decode cX1_leave 22 = .ok (.iload_n 1, 1) := by decide +kernel
theorem dX1_leave_23 : decode cX1_leave 23 = .ok (.iload_n 2, 1) := by decide +kernel
theorem dX1_leave_24 : decode cX1_leave 24 = .ok (.ineg, 1) := by decide +kernel
theorem dX1_leave_25 : decode cX1_leave 25 = .ok (.invokevirtual 93, 3) := by decide +kernel
theorem dX1_leave_28 : decode cX1_leave 28 = .ok (.aload_n 0, 1) := by decide +kernel
theorem dX1_leave_29 : decode cX1_leave 29 = .ok (.getfield 9, 3) := by decide +kernel
theorem dX1_leave_32 : decode cX1_leave 32 = .ok (.iload_n 1, 1) := by decide +kernel
theorem dX1_leave_33 : decode cX1_leave 33 = .ok (.iconst 0, 1) := by decide +kernel
theorem dX1_leave_34 : decode cX1_leave 34 = .ok (.bastore, 1) := by decide +kernel
theorem dX1_leave_35 : decode cX1_leave 35 = .ok (.aload_n 0, 1) := by decide +kernel
theorem dX1_leave_36 : decode cX1_leave 36 = .ok (.getfield 13, 3) := by decide +kernel
theorem dX1_leave_39 : decode cX1_leave 39 = .ok (.iload_n 1, 1) := by decide +kernel
theorem dX1_leave_40 : decode cX1_leave 40 = .ok (.iconst 0, 1) := by decide +kernel
theorem dX1_leave_41 : decode cX1_leave 41 = .ok (.iastore, 1) := by decide +kernel
theorem dX1_leave_42 : decode cX1_leave 42 = .ok (.aload_n 0, 1) := by decide +kernel
theorem dX1_leave_43 : decode cX1_leave 43 = .ok (.getfield 17, 3) := by decide +kernel
theorem dX1_leave_46 : decode cX1_leave 46 = .ok (.iload_n 1, 1) := by decide +kernel
theorem dX1_leave_47 : decode cX1_leave 47 = .ok (.iconst 0, 1) := by decide +kernel
theorem dX1_leave_48 : decode cX1_leave 48 = .ok (.iastore, 1) := by decide +kernel
theorem dX1_leave_49 : decode cX1_leave 49 = .ok (.aload_n 0, 1) := by decide +kernel
theorem dX1_leave_50 : decode cX1_leave 50 = .ok (.getfield 23, 3) := by decide +kernel
theorem dX1_leave_53 : decode cX1_leave 53 = .ok (.iload_n 1, 1) := by decide +kernel
theorem dX1_leave_54 : decode cX1_leave 54 = .ok (.iconst 0, 1) := by decide +kernel
theorem dX1_leave_55 : decode cX1_leave 55 = .ok (.iastore, 1) := by decide +kernel
theorem dX1_leave_56 : decode cX1_leave 56 = .ok (.aload_n 0, 1) := by decide +kernel
theorem dX1_leave_57 : decode cX1_leave 57 = .ok (.getfield 26, 3) := by decide +kernel
theorem dX1_leave_60 : decode cX1_leave 60 = .ok (.iload_n 1, 1) := by decide +kernel
theorem dX1_leave_61 : decode cX1_leave 61 = .ok (.iconst 0, 1) := by decide +kernel
theorem dX1_leave_62 : decode cX1_leave 62 = .ok (.iastore, 1) := by decide +kernel
theorem dX1_leave_63 : decode cX1_leave 63 = .ok (.iload_n 2, 1) := by decide +kernel
theorem dX1_leave_64 : decode cX1_leave 64 = .ok (.ireturn, 1) := by decide +kernel
set_option maxRecDepth 20000 in
theorem ggX1_clear_X1_beginClearing : GoodIn wsX1_clear wsX1_beginClearing := goodIn_r _ [15, 16, 10, 17, 4, 18, 19, 20, 21, 22, 115, 116, 117, 118, 119, 120, 121, 122, 123, 124, 125, 126, 127, 128, 129, 130, 131, 132, 133, 134, 135, 136, 137] (by decide +kernel) (by decide +kernel)
set_option maxRecDepth 20000 in
theorem gX1_clear_X1_beginClearing : GoodIn wsX1_clear (wsV RX1 99 RX1 yX1_beginClearing wsX1_beginClearing) := goodIn_app (goodIn_of _ (by decide +kernel)) ggX1_clear_X1_beginClearing
set_option maxRecDepth 20000 in
theorem ggX1_clear_X1_matchBuyers : GoodIn wsX1_clear wsX1_matchBuyers := goodIn_r _ [26, 17, 27, 28, 29, 14, 30, 31, 32, 33, 34, 35, 36, 37, 8, 38, 16, 39, 40, 41, 42, 43, 44, 45, 46, 6, 7, 9, 47, 19, 48, 49, 22, 50, 51, 52, 53, 54, 115, 116, 117, 118, 119, 120, 121, 122, 123, 124, 125, 126, 127, 128, 129, 130, 131, 132, 133, 134, 135, 136, 137] (by decide +kernel) (by decide +kernel)
set_option maxRecDepth 20000 in
theorem gX1_clear_X1_matchBuyers : GoodIn wsX1_clear (wsV RX1 102 RX1 yX1_matchBuyers wsX1_matchBuyers) := goodIn_app (goodIn_of _ (by decide +kernel)) ggX1_clear_X1_matchBuyers
set_option maxRecDepth 20000 in
theorem ggX1_clear_X1_cutOverLimits : GoodIn wsX1_clear wsX1_cutOverLimits := goodIn_r _ [58, 16, 59, 60, 19, 61, 62, 63, 7, 8, 9, 22, 50, 51, 52, 64, 37, 38, 53, 65, 66, 67, 68, 69, 70, 71, 115, 116, 117, 118, 119, 120, 121, 122, 123, 124, 125, 126, 127, 128, 129, 130, 131, 132, 133, 134, 135, 136, 137] (by decide +kernel) (by decide +kernel)
set_option maxRecDepth 20000 in
theorem gX1_clear_X1_cutOverLimits : GoodIn wsX1_clear (wsV RX1 105 RX1 yX1_cutOverLimits wsX1_cutOverLimits) := goodIn_app (goodIn_of _ (by decide +kernel)) ggX1_clear_X1_cutOverLimits
set_option maxRecDepth 20000 in
theorem ggX1_clear_X1_countTrades : GoodIn wsX1_clear wsX1_countTrades := goodIn_r _ [75, 16, 10, 76, 77, 66, 19, 67, 68, 22, 50, 51, 52, 69, 70, 71, 115, 116, 117, 118, 119, 120, 121, 122, 123, 124, 125, 126, 127, 128, 129, 130, 131, 132, 133, 134, 135, 136, 137] (by decide +kernel) (by decide +kernel)
set_option maxRecDepth 20000 in
theorem gX1_clear_X1_countTrades : GoodIn wsX1_clear (wsV RX1 108 RX1 yX1_countTrades wsX1_countTrades) := goodIn_app (goodIn_of _ (by decide +kernel)) ggX1_clear_X1_countTrades
set_option maxRecDepth 20000 in
theorem ggX1_clear_X1_settleTrades : GoodIn wsX1_clear wsX1_settleTrades := goodIn_r _ [81, 16, 82, 17, 115, 116, 117, 118, 119, 120, 121, 122, 123, 124, 125, 126, 127, 128, 129, 130, 131, 132, 133, 134, 135, 136, 137] (by decide +kernel) (by decide +kernel)
set_option maxRecDepth 20000 in
theorem gX1_clear_X1_settleTrades : GoodIn wsX1_clear (wsV RX1 111 RX1 yX1_settleTrades wsX1_settleTrades) := goodIn_app (goodIn_of _ (by decide +kernel)) ggX1_clear_X1_settleTrades
set_option maxRecDepth 20000 in
theorem ggX1_clear_X1_useBattery : GoodIn wsX1_clear wsX1_useBattery := goodIn_r _ [86, 17, 87, 88, 36, 37, 8, 38, 89, 90, 91, 14, 92, 10, 93, 94, 95, 96, 97, 98, 99, 100, 101, 102, 103, 82, 76, 115, 116, 117, 118, 119, 120, 121, 122, 123, 124, 125, 126, 127, 128, 129, 130, 131] (by decide +kernel) (by decide +kernel)
set_option maxRecDepth 20000 in
theorem gX1_clear_X1_useBattery : GoodIn wsX1_clear (wsV RX1 114 RX1 yX1_useBattery wsX1_useBattery) := goodIn_app (goodIn_of _ (by decide +kernel)) ggX1_clear_X1_useBattery
set_option maxRecDepth 20000 in
theorem ggX1_clear_X1_settleWithSupplier : GoodIn wsX1_clear wsX1_settleWithSupplier := goodIn_r _ [107, 17, 108, 109, 82, 110, 10, 115, 116, 117, 118, 119, 120, 121, 122, 123, 124, 125, 126, 127, 128, 129, 130, 131] (by decide +kernel) (by decide +kernel)
set_option maxRecDepth 20000 in
theorem gX1_clear_X1_settleWithSupplier : GoodIn wsX1_clear (wsV RX1 117 RX1 yX1_settleWithSupplier wsX1_settleWithSupplier) := goodIn_app (goodIn_of _ (by decide +kernel)) ggX1_clear_X1_settleWithSupplier
set_option maxRecDepth 20000 in
theorem ggX1_clear_X1_payPool : GoodIn wsX1_clear wsX1_payPool := goodIn_r _ [103, 82, 76, 115, 116, 117, 118, 119, 120, 121, 122, 123, 124, 125, 126, 127, 128, 129, 130, 131] (by decide +kernel) (by decide +kernel)
set_option maxRecDepth 20000 in
theorem gX1_clear_X1_payPool : GoodIn wsX1_clear (wsV RX1 93 RX1 yX1_payPool wsX1_payPool) := goodIn_app (goodIn_of _ (by decide +kernel)) ggX1_clear_X1_payPool
set_option maxRecDepth 20000 in
theorem ggX1_clear_X1_beginNextQuarter : GoodIn wsX1_clear wsX1_beginNextQuarter := goodIn_r _ [114, 5, 4, 3, 115, 116, 117, 118, 119, 120, 121, 122, 123, 124, 125, 126, 127, 128, 129, 130, 131] (by decide +kernel) (by decide +kernel)
set_option maxRecDepth 20000 in
theorem gX1_clear_X1_beginNextQuarter : GoodIn wsX1_clear (wsV RX1 126 RX1 yX1_beginNextQuarter wsX1_beginNextQuarter) := goodIn_app (goodIn_of _ (by decide +kernel)) ggX1_clear_X1_beginNextQuarter
theorem dX1_clear_0 : decode cX1_clear 0 = .ok (.aload_n 0, 1) := by decide +kernel
theorem dX1_clear_1 : decode cX1_clear 1 = .ok (.getfield 64, 3) := by decide +kernel
theorem dX1_clear_4 : decode cX1_clear 4 = .ok (.sipush 500, 3) := by decide +kernel
theorem dX1_clear_7 : decode cX1_clear 7 = .ok (.if_icmp .lt 13, 3) := by decide +kernel
theorem dX1_clear_10 : decode cX1_clear 10 = .ok (.new 88, 3) := by decide +kernel
theorem dX1_clear_13 : decode cX1_clear 13 = .ok (.dup, 1) := by decide +kernel
theorem dX1_clear_14 : decode cX1_clear 14 = .ok (.ldc 97, 2) := by decide +kernel
theorem dX1_clear_16 : decode cX1_clear 16 = .ok (.invokespecial 92, 3) := by decide +kernel
theorem dX1_clear_19 : decode cX1_clear 19 = .ok (.athrow, 1) := by decide +kernel
theorem dX1_clear_20 : decode cX1_clear 20 = .ok (.aload_n 0, 1) := by decide +kernel
theorem dX1_clear_21 : decode cX1_clear 21 = .ok (.invokevirtual 99, 3) := by decide +kernel
theorem dX1_clear_24 : decode cX1_clear 24 = .ok (.aload_n 0, 1) := by decide +kernel
theorem dX1_clear_25 : decode cX1_clear 25 = .ok (.invokevirtual 102, 3) := by decide +kernel
theorem dX1_clear_28 : decode cX1_clear 28 = .ok (.aload_n 0, 1) := by decide +kernel
theorem dX1_clear_29 : decode cX1_clear 29 = .ok (.invokevirtual 105, 3) := by decide +kernel
theorem dX1_clear_32 : decode cX1_clear 32 = .ok (.aload_n 0, 1) := by decide +kernel
theorem dX1_clear_33 : decode cX1_clear 33 = .ok (.invokevirtual 108, 3) := by decide +kernel
theorem dX1_clear_36 : decode cX1_clear 36 = .ok (.iconst 0, 1) := by decide +kernel
theorem dX1_clear_37 : decode cX1_clear 37 = .ok (.istore_n 1, 1) := by decide +kernel
theorem dX1_clear_38 : decode cX1_clear 38 = .ok (.iload_n 1, 1) := by decide +kernel
theorem dX1_clear_39 : decode cX1_clear 39 = .ok (.bipush 6, 2) := by decide +kernel
theorem dX1_clear_41 : decode cX1_clear 41 = .ok (.if_icmp .ge 45, 3) := by decide +kernel
theorem dX1_clear_44 : decode cX1_clear 44 = .ok (.aload_n 0, 1) := by decide +kernel
theorem dX1_clear_45 : decode cX1_clear 45 = .ok (.iload_n 1, 1) := by decide +kernel
theorem dX1_clear_46 : decode cX1_clear 46 = .ok (.invokevirtual 111, 3) := by decide +kernel
theorem dX1_clear_49 : decode cX1_clear 49 = .ok (.aload_n 0, 1) := by decide +kernel
theorem dX1_clear_50 : decode cX1_clear 50 = .ok (.iload_n 1, 1) := by decide +kernel
theorem dX1_clear_51 : decode cX1_clear 51 = .ok (.invokevirtual 114, 3) := by decide +kernel
theorem dX1_clear_54 : decode cX1_clear 54 = .ok (.aload_n 0, 1) := by decide +kernel
theorem dX1_clear_55 : decode cX1_clear 55 = .ok (.iload_n 1, 1) := by decide +kernel
theorem dX1_clear_56 : decode cX1_clear 56 = .ok (.invokevirtual 117, 3) := by decide +kernel
theorem dX1_clear_59 : decode cX1_clear 59 = .ok (.aload_n 0, 1) := by decide +kernel
theorem dX1_clear_60 : decode cX1_clear 60 = .ok (.iload_n 1, 1) := by decide +kernel
theorem dX1_clear_61 : decode cX1_clear 61 = .ok (.aload_n 0, 1) := by decide +kernel
theorem dX1_clear_62 : decode cX1_clear 62 = .ok (.getfield 17, 3) := by decide +kernel
theorem dX1_clear_65 : decode cX1_clear 65 = .ok (.iload_n 1, 1) := by decide +kernel
theorem dX1_clear_66 : decode cX1_clear 66 = .ok (.iaload, 1) := by decide +kernel
theorem dX1_clear_67 : decode cX1_clear 67 = .ok (.aload_n 0, 1) := by decide +kernel
theorem dX1_clear_68 : decode cX1_clear 68 = .ok (.getfield 13, 3) := by decide +kernel
theorem dX1_clear_71 : decode cX1_clear 71 = .ok (.iload_n 1, 1) := by decide +kernel
theorem dX1_clear_72 : decode cX1_clear 72 = .ok (.iaload, 1) := by decide +kernel
theorem dX1_clear_73 : decode cX1_clear 73 = .ok (.isub, 1) := by decide +kernel
theorem dX1_clear_74 : decode cX1_clear 74 = .ok (.invokestatic 120, 3) := by decide +kernel
theorem dX1_clear_77 : decode cX1_clear 77 = .ok (.invokevirtual 93, 3) := by decide +kernel
theorem dX1_clear_80 : decode cX1_clear 80 = .ok (.iinc 1 1, 3) := by decide +kernel
theorem dX1_clear_83 : decode cX1_clear 83 = .ok (.goto (-45), 3) := by decide +kernel
theorem dX1_clear_86 : decode cX1_clear 86 = .ok (.aload_n 0, 1) := by decide +kernel
theorem dX1_clear_87 : decode cX1_clear 87 = .ok (.invokevirtual 126, 3) := by decide +kernel
theorem dX1_clear_90 : decode cX1_clear 90 = .ok (.aload_n 0, 1) := by decide +kernel
theorem dX1_clear_91 : decode cX1_clear 91 = .ok (.getfield 41, 3) := by decide +kernel
theorem dX1_clear_94 : decode cX1_clear 94 = .ok (.iconst 0, 1) := by decide +kernel
theorem dX1_clear_95 : decode cX1_clear 95 = .ok (.iaload, 1) := by decide +kernel
theorem dX1_clear_96 : decode cX1_clear 96 = .ok (.ireturn, 1) := by decide +kernel
theorem dX1_quarter_0 : decode cX1_quarter 0 = .ok (.aload_n 0, 1) := by decide +kernel
theorem dX1_quarter_1 : decode cX1_quarter 1 = .ok (.getfield 64, 3) := by decide +kernel
theorem dX1_quarter_4 : decode cX1_quarter 4 = .ok (.ireturn, 1) := by decide +kernel
set_option maxRecDepth 20000 in
theorem ggX1_mostTradable_X1_boundBySet : GoodIn wsX1_mostTradable wsX1_boundBySet := goodIn_r _ [9, 10, 11, 12, 8, 13, 14, 15, 16, 17, 18, 19, 20, 21, 22, 23, 24, 25, 26, 27, 28, 29, 30, 31, 32, 33, 34, 35] (by decide +kernel) (by decide +kernel)
set_option maxRecDepth 20000 in
theorem gX1_mostTradable_X1_boundBySet : GoodIn wsX1_mostTradable (wsV RX1 129 RX1 yX1_boundBySet wsX1_boundBySet) := goodIn_app (goodIn_of _ (by decide +kernel)) ggX1_mostTradable_X1_boundBySet
theorem dX1_mostTradable_0 : decode cX1_mostTradable 0 = .ok (.aload_n 0, 1) := by decide +kernel
theorem dX1_mostTradable_1 : decode cX1_mostTradable 1 = .ok (.iconst 0, 1) := by decide +kernel
theorem dX1_mostTradable_2 : decode cX1_mostTradable 2 = .ok (.invokevirtual 129, 3) := by decide +kernel
theorem dX1_mostTradable_5 : decode cX1_mostTradable 5 = .ok (.istore_n 1, 1) := by decide +kernel
theorem dX1_mostTradable_6 : decode cX1_mostTradable 6 = .ok (.iconst 1, 1) := by decide +kernel
theorem dX1_mostTradable_7 : decode cX1_mostTradable 7 = .ok (.istore_n 2, 1) := by decide +kernel
theorem dX1_mostTradable_8 : decode cX1_mostTradable 8 = .ok (.iload_n 2, 1) := by decide +kernel
theorem dX1_mostTradable_9 : decode cX1_mostTradable 9 = .ok (.bipush 64, 2) := by decide +kernel
theorem dX1_mostTradable_11 : decode cX1_mostTradable 11 = .ok (.if_icmp .ge 19, 3) := by decide +kernel
theorem dX1_mostTradable_14 : decode cX1_mostTradable 14 = .ok (.iload_n 1, 1) := by decide +kernel
theorem dX1_mostTradable_15 : decode cX1_mostTradable 15 = .ok (.aload_n 0, 1) := by decide +kernel
theorem dX1_mostTradable_16 : decode cX1_mostTradable 16 = .ok (.iload_n 2, 1) := by decide +kernel
theorem dX1_mostTradable_17 : decode cX1_mostTradable 17 = .ok (.invokevirtual 129, 3) := by decide +kernel
theorem dX1_mostTradable_20 : decode cX1_mostTradable 20 = .ok (.invokestatic 132, 3) := by decide +kernel
theorem dX1_mostTradable_23 : decode cX1_mostTradable 23 = .ok (.istore_n 1, 1) := by decide +kernel
theorem dX1_mostTradable_24 : decode cX1_mostTradable 24 = .ok (.iinc 2 1, 3) := by decide +kernel
theorem dX1_mostTradable_27 : decode cX1_mostTradable 27 = .ok (.goto (-19), 3) := by decide +kernel
theorem dX1_mostTradable_30 : decode cX1_mostTradable 30 = .ok (.iload_n 1, 1) := by decide +kernel
theorem dX1_mostTradable_31 : decode cX1_mostTradable 31 = .ok (.ireturn, 1) := by decide +kernel
theorem dX1_trades_0 : decode cX1_trades 0 = .ok (.aload_n 0, 1) := by decide +kernel
theorem dX1_trades_1 : decode cX1_trades 1 = .ok (.getfield 47, 3) := by decide +kernel
theorem dX1_trades_4 : decode cX1_trades 4 = .ok (.getfield 136, 3) := by decide +kernel
theorem dX1_trades_7 : decode cX1_trades 7 = .ok (.ireturn, 1) := by decide +kernel
theorem dX1_ofTrade_0 : decode cX1_ofTrade 0 = .ok (.iload_n 1, 1) := by decide +kernel
theorem dX1_ofTrade_1 : decode cX1_ofTrade 1 = .ok (.ifCond .lt 14, 3) := by decide +kernel
theorem dX1_ofTrade_4 : decode cX1_ofTrade 4 = .ok (.iload_n 1, 1) := by decide +kernel
theorem dX1_ofTrade_5 : decode cX1_ofTrade 5 = .ok (.aload_n 0, 1) := by decide +kernel
theorem dX1_ofTrade_6 : decode cX1_ofTrade 6 = .ok (.getfield 47, 3) := by decide +kernel
theorem dX1_ofTrade_9 : decode cX1_ofTrade 9 = .ok (.getfield 136, 3) := by decide +kernel
theorem dX1_ofTrade_12 : decode cX1_ofTrade 12 = .ok (.if_icmp .lt 13, 3) := by decide +kernel
theorem dX1_ofTrade_15 : decode cX1_ofTrade 15 = .ok (.new 139, 3) := by decide +kernel
theorem dX1_ofTrade_18 : decode cX1_ofTrade 18 = .ok (.dup, 1) := by decide +kernel
theorem dX1_ofTrade_19 : decode cX1_ofTrade 19 = .ok (.ldc 141, 2) := by decide +kernel
theorem dX1_ofTrade_21 : decode cX1_ofTrade 21 = .ok (.invokespecial 143, 3) := by decide +kernel
theorem dX1_ofTrade_24 : decode cX1_ofTrade 24 = .ok (.athrow, 1) := by decide +kernel
theorem dX1_ofTrade_25 : decode cX1_ofTrade 25 = .ok (.iload_n 2, 1) := by decide +kernel
theorem dX1_ofTrade_26 : decode cX1_ofTrade 26 = .ok (.tableswitch 70 0 3 #[30, 40, 50, 60], 30) := by decide +kernel
theorem dX1_ofTrade_56 : decode cX1_ofTrade 56 = .ok (.aload_n 0, 1) := by decide +kernel
theorem dX1_ofTrade_57 : decode cX1_ofTrade 57 = .ok (.getfield 47, 3) := by decide +kernel
theorem dX1_ofTrade_60 : decode cX1_ofTrade 60 = .ok (.getfield 144, 3) := by decide +kernel
theorem dX1_ofTrade_63 : decode cX1_ofTrade 63 = .ok (.iload_n 1, 1) := by decide +kernel
theorem dX1_ofTrade_64 : decode cX1_ofTrade 64 = .ok (.iaload, 1) := by decide +kernel
theorem dX1_ofTrade_65 : decode cX1_ofTrade 65 = .ok (.ireturn, 1) := by decide +kernel
theorem dX1_ofTrade_66 : decode cX1_ofTrade 66 = .ok (.aload_n 0, 1) := by decide +kernel
theorem dX1_ofTrade_67 : decode cX1_ofTrade 67 = .ok (.getfield 47, 3) := by decide +kernel
theorem dX1_ofTrade_70 : decode cX1_ofTrade 70 = .ok (.getfield 147, 3) := by decide +kernel
theorem dX1_ofTrade_73 : decode cX1_ofTrade 73 = .ok (.iload_n 1, 1) := by decide +kernel
theorem dX1_ofTrade_74 : decode cX1_ofTrade 74 = .ok (.iaload, 1) := by decide +kernel
theorem dX1_ofTrade_75 : decode cX1_ofTrade 75 = .ok (.ireturn, 1) := by decide +kernel
theorem dX1_ofTrade_76 : decode cX1_ofTrade 76 = .ok (.aload_n 0, 1) := by decide +kernel
theorem dX1_ofTrade_77 : decode cX1_ofTrade 77 = .ok (.getfield 47, 3) := by decide +kernel
theorem dX1_ofTrade_80 : decode cX1_ofTrade 80 = .ok (.getfield 150, 3) := by decide +kernel
theorem dX1_ofTrade_83 : decode cX1_ofTrade 83 = .ok (.iload_n 1, 1) := by decide +kernel
theorem dX1_ofTrade_84 : decode cX1_ofTrade 84 = .ok (.iaload, 1) := by decide +kernel
theorem dX1_ofTrade_85 : decode cX1_ofTrade 85 = .ok (.ireturn, 1) := by decide +kernel
theorem dX1_ofTrade_86 : decode cX1_ofTrade 86 = .ok (.aload_n 0, 1) := by decide +kernel
theorem dX1_ofTrade_87 : decode cX1_ofTrade 87 = .ok (.getfield 47, 3) := by decide +kernel
theorem dX1_ofTrade_90 : decode cX1_ofTrade 90 = .ok (.getfield 153, 3) := by decide +kernel
theorem dX1_ofTrade_93 : decode cX1_ofTrade 93 = .ok (.iload_n 1, 1) := by decide +kernel
theorem dX1_ofTrade_94 : decode cX1_ofTrade 94 = .ok (.iaload, 1) := by decide +kernel
theorem dX1_ofTrade_95 : decode cX1_ofTrade 95 = .ok (.ireturn, 1) := by decide +kernel
theorem dX1_ofTrade_96 : decode cX1_ofTrade 96 = .ok (.new 139, 3) := by decide +kernel
theorem dX1_ofTrade_99 : decode cX1_ofTrade 99 = .ok (.dup, 1) := by decide +kernel
theorem dX1_ofTrade_100 : decode cX1_ofTrade 100 = .ok (.ldc 154, 2) := by decide +kernel
theorem dX1_ofTrade_102 : decode cX1_ofTrade 102 = .ok (.invokespecial 143, 3) := by decide +kernel
theorem dX1_ofTrade_105 : decode cX1_ofTrade 105 = .ok (.athrow, 1) := by decide +kernel
theorem dX1_went_0 : decode cX1_went 0 = .ok (.iload_n 1, 1) := by decide +kernel
theorem dX1_went_1 : decode cX1_went 1 = .ok (.ifCond .lt 9, 3) := by decide +kernel
theorem dX1_went_4 : decode cX1_went 4 = .ok (.iload_n 1, 1) := by decide +kernel
theorem dX1_went_5 : decode cX1_went 5 = .ok (.bipush 6, 2) := by decide +kernel
theorem dX1_went_7 : decode cX1_went 7 = .ok (.if_icmp .lt 13, 3) := by decide +kernel
theorem dX1_went_10 : decode cX1_went 10 = .ok (.new 139, 3) := by decide +kernel
theorem dX1_went_13 : decode cX1_went 13 = .ok (.dup, 1) := by decide +kernel
theorem dX1_went_14 : decode cX1_went 14 = .ok (.ldc 156, 2) := by decide +kernel
theorem dX1_went_16 : decode cX1_went 16 = .ok (.invokespecial 143, 3) := by decide +kernel
theorem dX1_went_19 : decode cX1_went 19 = .ok (.athrow, 1) := by decide +kernel
theorem dX1_went_20 : decode cX1_went 20 = .ok (.aload_n 0, 1) := by decide +kernel
theorem dX1_went_21 : decode cX1_went 21 = .ok (.getfield 41, 3) := by decide +kernel
theorem dX1_went_24 : decode cX1_went 24 = .ok (.iload_n 1, 1) := by decide +kernel
theorem dX1_went_25 : decode cX1_went 25 = .ok (.iaload, 1) := by decide +kernel
theorem dX1_went_26 : decode cX1_went 26 = .ok (.ireturn, 1) := by decide +kernel
set_option maxRecDepth 20000 in
theorem ggX1_flow_X1_checkStretch : GoodIn wsX1_flow wsX1_checkStretch := goodIn_ca (goodIn_r _ [5, 6, 7] (by decide +kernel) (by decide +kernel)) (goodIn_sub (fun _ h => List.mem_cons_of_mem _ (List.mem_append_right _ h)) (by decide +kernel))
set_option maxRecDepth 20000 in
theorem gX1_flow_X1_checkStretch : GoodIn wsX1_flow (va_wsS RX1 78 yX1_checkStretch wsX1_checkStretch) := goodIn_app (goodIn_of _ (by decide +kernel)) ggX1_flow_X1_checkStretch
theorem dX1_flow_0 : decode cX1_flow 0 = .ok (.iload_n 1, 1) := by decide +kernel
theorem dX1_flow_1 : decode cX1_flow 1 = .ok (.invokestatic 78, 3) := by decide +kernel
theorem dX1_flow_4 : decode cX1_flow 4 = .ok (.aload_n 0, 1) := by decide +kernel
theorem dX1_flow_5 : decode cX1_flow 5 = .ok (.getfield 38, 3) := by decide +kernel
theorem dX1_flow_8 : decode cX1_flow 8 = .ok (.iload_n 1, 1) := by decide +kernel
theorem dX1_flow_9 : decode cX1_flow 9 = .ok (.iaload, 1) := by decide +kernel
theorem dX1_flow_10 : decode cX1_flow 10 = .ok (.ireturn, 1) := by decide +kernel
set_option maxRecDepth 20000 in
theorem ggX1_isMember_X1_checkHouse : GoodIn wsX1_isMember wsX1_checkHouse := goodIn_ca (goodIn_r _ [5, 6, 7] (by decide +kernel) (by decide +kernel)) (goodIn_sub (fun _ h => List.mem_cons_of_mem _ (List.mem_append_right _ h)) (by decide +kernel))
set_option maxRecDepth 20000 in
theorem gX1_isMember_X1_checkHouse : GoodIn wsX1_isMember (va_wsS RX1 67 yX1_checkHouse wsX1_checkHouse) := goodIn_app (goodIn_of _ (by decide +kernel)) ggX1_isMember_X1_checkHouse
theorem dX1_isMember_0 : decode cX1_isMember 0 = .ok (.iload_n 1, 1) := by decide +kernel
theorem dX1_isMember_1 : decode cX1_isMember 1 = .ok (.invokestatic 67, 3) := by decide +kernel
theorem dX1_isMember_4 : decode cX1_isMember 4 = .ok (.aload_n 0, 1) := by decide +kernel
theorem dX1_isMember_5 : decode cX1_isMember 5 = .ok (.getfield 9, 3) := by decide +kernel
theorem dX1_isMember_8 : decode cX1_isMember 8 = .ok (.iload_n 1, 1) := by decide +kernel
theorem dX1_isMember_9 : decode cX1_isMember 9 = .ok (.baload, 1) := by decide +kernel
theorem dX1_isMember_10 : decode cX1_isMember 10 = .ok (.ireturn, 1) := by decide +kernel
set_option maxRecDepth 20000 in
theorem ggX1_stored_X1_checkHouse : GoodIn wsX1_stored wsX1_checkHouse := goodIn_ca (goodIn_r _ [5, 6, 7] (by decide +kernel) (by decide +kernel)) (goodIn_sub (fun _ h => List.mem_cons_of_mem _ (List.mem_append_right _ h)) (by decide +kernel))
set_option maxRecDepth 20000 in
theorem gX1_stored_X1_checkHouse : GoodIn wsX1_stored (va_wsS RX1 67 yX1_checkHouse wsX1_checkHouse) := goodIn_app (goodIn_of _ (by decide +kernel)) ggX1_stored_X1_checkHouse
theorem dX1_stored_0 : decode cX1_stored 0 = .ok (.iload_n 1, 1) := by decide +kernel
theorem dX1_stored_1 : decode cX1_stored 1 = .ok (.invokestatic 67, 3) := by decide +kernel
theorem dX1_stored_4 : decode cX1_stored 4 = .ok (.aload_n 0, 1) := by decide +kernel
theorem dX1_stored_5 : decode cX1_stored 5 = .ok (.getfield 26, 3) := by decide +kernel
theorem dX1_stored_8 : decode cX1_stored 8 = .ok (.iload_n 1, 1) := by decide +kernel
theorem dX1_stored_9 : decode cX1_stored 9 = .ok (.iaload, 1) := by decide +kernel
theorem dX1_stored_10 : decode cX1_stored 10 = .ok (.ireturn, 1) := by decide +kernel
set_option maxRecDepth 20000 in
theorem ggX1_part_X1_checkHouse : GoodIn wsX1_part wsX1_checkHouse := goodIn_ca (goodIn_r _ [5, 6, 7] (by decide +kernel) (by decide +kernel)) (goodIn_sub (fun _ h => List.mem_cons_of_mem _ (List.mem_append_right _ h)) (by decide +kernel))
set_option maxRecDepth 20000 in
theorem gX1_part_X1_checkHouse : GoodIn wsX1_part (va_wsS RX1 67 yX1_checkHouse wsX1_checkHouse) := goodIn_app (goodIn_of _ (by decide +kernel)) ggX1_part_X1_checkHouse
theorem dX1_part_0 : decode cX1_part 0 = .ok (.iload_n 1, 1) := by decide +kernel
theorem dX1_part_1 : decode cX1_part 1 = .ok (.invokestatic 67, 3) := by decide +kernel
theorem dX1_part_4 : decode cX1_part 4 = .ok (.aload_n 0, 1) := by decide +kernel
theorem dX1_part_5 : decode cX1_part 5 = .ok (.getfield 23, 3) := by decide +kernel
theorem dX1_part_8 : decode cX1_part 8 = .ok (.iload_n 1, 1) := by decide +kernel
theorem dX1_part_9 : decode cX1_part 9 = .ok (.iaload, 1) := by decide +kernel
theorem dX1_part_10 : decode cX1_part 10 = .ok (.ireturn, 1) := by decide +kernel
set_option maxRecDepth 20000 in
theorem ggX1_bill_X1_checkHouse : GoodIn wsX1_bill wsX1_checkHouse := goodIn_ca (goodIn_r _ [5, 6, 7] (by decide +kernel) (by decide +kernel)) (goodIn_sub (fun _ h => List.mem_cons_of_mem _ (List.mem_append_right _ h)) (by decide +kernel))
set_option maxRecDepth 20000 in
theorem gX1_bill_X1_checkHouse : GoodIn wsX1_bill (va_wsS RX1 67 yX1_checkHouse wsX1_checkHouse) := goodIn_app (goodIn_of _ (by decide +kernel)) ggX1_bill_X1_checkHouse
theorem dX1_bill_0 : decode cX1_bill 0 = .ok (.iload_n 1, 1) := by decide +kernel
theorem dX1_bill_1 : decode cX1_bill 1 = .ok (.invokestatic 67, 3) := by decide +kernel
theorem dX1_bill_4 : decode cX1_bill 4 = .ok (.aload_n 0, 1) := by decide +kernel
theorem dX1_bill_5 : decode cX1_bill 5 = .ok (.getfield 29, 3) := by decide +kernel
theorem dX1_bill_8 : decode cX1_bill 8 = .ok (.iload_n 1, 1) := by decide +kernel
theorem dX1_bill_9 : decode cX1_bill 9 = .ok (.iaload, 1) := by decide +kernel
theorem dX1_bill_10 : decode cX1_bill 10 = .ok (.ireturn, 1) := by decide +kernel
theorem dX1_pool_0 : decode cX1_pool 0 = .ok (.aload_n 0, 1) := by decide +kernel
theorem dX1_pool_1 : decode cX1_pool 1 = .ok (.getfield 58, 3) := by decide +kernel
theorem dX1_pool_4 : decode cX1_pool 4 = .ok (.ireturn, 1) := by decide +kernel
theorem dX1_supplied_0 : decode cX1_supplied 0 = .ok (.aload_n 0, 1) := by decide +kernel
theorem dX1_supplied_1 : decode cX1_supplied 1 = .ok (.getfield 61, 3) := by decide +kernel
theorem dX1_supplied_4 : decode cX1_supplied 4 = .ok (.ireturn, 1) := by decide +kernel
theorem dX1_checkHouse_0 : decode cX1_checkHouse 0 = .ok (.iload_n 0, 1) := by decide +kernel
theorem dX1_checkHouse_1 : decode cX1_checkHouse 1 = .ok (.ifCond .lt 9, 3) := by decide +kernel
theorem dX1_checkHouse_4 : decode cX1_checkHouse 4 = .ok (.iload_n 0, 1) := by decide +kernel
theorem dX1_checkHouse_5 : decode cX1_checkHouse 5 = .ok (.bipush 6, 2) := by decide +kernel
theorem dX1_checkHouse_7 : decode cX1_checkHouse 7 = .ok (.if_icmp .lt 13, 3) := by decide +kernel
theorem dX1_checkHouse_10 : decode cX1_checkHouse 10 = .ok (.new 139, 3) := by decide +kernel
theorem dX1_checkHouse_13 : decode cX1_checkHouse 13 = .ok (.dup, 1) := by decide +kernel
theorem dX1_checkHouse_14 : decode cX1_checkHouse 14 = .ok (.ldc 158, 2) := by decide +kernel
theorem dX1_checkHouse_16 : decode cX1_checkHouse 16 = .ok (.invokespecial 143, 3) := by decide +kernel
theorem dX1_checkHouse_19 : decode cX1_checkHouse 19 = .ok (.athrow, 1) := by decide +kernel
theorem dX1_checkHouse_20 : decode cX1_checkHouse 20 = .ok (.return_, 1) := by decide +kernel
theorem dX1_checkStretch_0 : decode cX1_checkStretch 0 = .ok (.iload_n 0, 1) := by decide +kernel
theorem dX1_checkStretch_1 : decode cX1_checkStretch 1 = .ok (.ifCond .lt 8, 3) := by decide +kernel
theorem dX1_checkStretch_4 : decode cX1_checkStretch 4 = .ok (.iload_n 0, 1) := by decide +kernel
theorem dX1_checkStretch_5 : decode cX1_checkStretch 5 = .ok (.iconst 5, 1) := by decide +kernel
theorem dX1_checkStretch_6 : decode cX1_checkStretch 6 = .ok (.if_icmp .lt 13, 3) := by decide +kernel
theorem dX1_checkStretch_9 : decode cX1_checkStretch 9 = .ok (.new 139, 3) := by decide +kernel
theorem dX1_checkStretch_12 : decode cX1_checkStretch 12 = .ok (.dup, 1) := by decide +kernel
theorem dX1_checkStretch_13 : decode cX1_checkStretch 13 = .ok (.ldc 160, 2) := by decide +kernel
theorem dX1_checkStretch_15 : decode cX1_checkStretch 15 = .ok (.invokespecial 143, 3) := by decide +kernel
theorem dX1_checkStretch_18 : decode cX1_checkStretch 18 = .ok (.athrow, 1) := by decide +kernel
theorem dX1_checkStretch_19 : decode cX1_checkStretch 19 = .ok (.return_, 1) := by decide +kernel
theorem dX1_checkRange_0 : decode cX1_checkRange 0 = .ok (.iload_n 0, 1) := by decide +kernel
theorem dX1_checkRange_1 : decode cX1_checkRange 1 = .ok (.iload_n 1, 1) := by decide +kernel
theorem dX1_checkRange_2 : decode cX1_checkRange 2 = .ok (.if_icmp .lt 8, 3) := by decide +kernel
theorem dX1_checkRange_5 : decode cX1_checkRange 5 = .ok (.iload_n 0, 1) := by decide +kernel
theorem dX1_checkRange_6 : decode cX1_checkRange 6 = .ok (.iload_n 2, 1) := by decide +kernel
theorem dX1_checkRange_7 : decode cX1_checkRange 7 = .ok (.if_icmp .le 13, 3) := by decide +kernel
theorem dX1_checkRange_10 : decode cX1_checkRange 10 = .ok (.new 81, 3) := by decide +kernel
theorem dX1_checkRange_13 : decode cX1_checkRange 13 = .ok (.dup, 1) := by decide +kernel
theorem dX1_checkRange_14 : decode cX1_checkRange 14 = .ok (.ldc 162, 2) := by decide +kernel
theorem dX1_checkRange_16 : decode cX1_checkRange 16 = .ok (.invokespecial 85, 3) := by decide +kernel
theorem dX1_checkRange_19 : decode cX1_checkRange 19 = .ok (.athrow, 1) := by decide +kernel
theorem dX1_checkRange_20 : decode cX1_checkRange 20 = .ok (.return_, 1) := by decide +kernel
theorem dX1_checkMember_0 : decode cX1_checkMember 0 = .ok (.aload_n 0, 1) := by decide +kernel
theorem dX1_checkMember_1 : decode cX1_checkMember 1 = .ok (.getfield 9, 3) := by decide +kernel
theorem dX1_checkMember_4 : decode cX1_checkMember 4 = .ok (.iload_n 1, 1) := by decide +kernel
theorem dX1_checkMember_5 : decode cX1_checkMember 5 = .ok (.baload, 1) := by decide +kernel
theorem dX1_checkMember_6 : decode cX1_checkMember 6 = .ok (.ifCond .ne 13, 3) := by decide +kernel
theorem dX1_checkMember_9 : decode cX1_checkMember 9 = .ok (.new 88, 3) := by decide +kernel
theorem dX1_checkMember_12 : decode cX1_checkMember 12 = .ok (.dup, 1) := by decide +kernel
theorem dX1_checkMember_13 : decode cX1_checkMember 13 = .ok (.ldc 164, 2) := by decide +kernel
theorem dX1_checkMember_15 : decode cX1_checkMember 15 = .ok (.invokespecial 92, 3) := by decide +kernel
theorem dX1_checkMember_18 : decode cX1_checkMember 18 = .ok (.athrow, 1) := by decide +kernel
theorem dX1_checkMember_19 : decode cX1_checkMember 19 = .ok (.return_, 1) := by decide +kernel
set_option maxRecDepth 20000 in
theorem ggX1_beginClearing_X0_empty : GoodIn wsX1_beginClearing wsX0_empty := goodIn_r _ [8, 9, 27, 28, 29, 30, 31, 32] (by decide +kernel) (by decide +kernel)
set_option maxRecDepth 20000 in
theorem gX1_beginClearing_X0_empty_n166 : GoodIn wsX1_beginClearing (wsX0_empty) := ggX1_beginClearing_X0_empty
theorem dX1_beginClearing_0 : decode cX1_beginClearing 0 = .ok (.aload_n 0, 1) := by decide +kernel
theorem dX1_beginClearing_1 : decode cX1_beginClearing 1 = .ok (.getfield 47, 3) := by decide +kernel
theorem dX1_beginClearing_4 : decode cX1_beginClearing 4 = .ok (.invokevirtual 166, 3) := by decide +kernel
theorem dX1_beginClearing_7 : decode cX1_beginClearing 7 = .ok (.iconst 0, 1) := by decide +kernel
theorem dX1_beginClearing_8 : decode cX1_beginClearing 8 = .ok (.istore_n 1, 1) := by decide +kernel
theorem dX1_beginClearing_9 : decode cX1_beginClearing 9 = .ok (.iload_n 1, 1) := by decide +kernel
theorem dX1_beginClearing_10 : decode cX1_beginClearing 10 = .ok (.bipush 6, 2) := by decide +kernel
theorem dX1_beginClearing_12 : decode cX1_beginClearing 12 = .ok (.if_icmp .ge 16, 3) := by decide +kernel
theorem dX1_beginClearing_15 : decode cX1_beginClearing 15 = .ok (.aload_n 0, 1) := by decide +kernel
theorem dX1_beginClearing_16 : decode cX1_beginClearing 16 = .ok (.getfield 41, 3) := by decide +kernel
theorem dX1_beginClearing_19 : decode cX1_beginClearing 19 = .ok (.iload_n 1, 1) := by decide +kernel
theorem dX1_beginClearing_20 : decode cX1_beginClearing 20 = .ok (.iconst 0, 1) := by decide +kernel
theorem dX1_beginClearing_21 : decode cX1_beginClearing 21 = .ok (.iastore, 1) := by decide +kernel
theorem dX1_beginClearing_22 : decode cX1_beginClearing 22 = .ok (.iinc 1 1, 3) := by decide +kernel
theorem dX1_beginClearing_25 : decode cX1_beginClearing 25 = .ok (.goto (-16), 3) := by decide +kernel
theorem dX1_beginClearing_28 : decode cX1_beginClearing 28 = .ok (.iconst 0, 1) := by decide +kernel
theorem dX1_beginClearing_29 : decode cX1_beginClearing 29 = .ok (.istore_n 1, 1) := by decide +kernel
theorem dX1_beginClearing_30 : decode cX1_beginClearing 30 = .ok (.iload_n 1, 1) := by decide +kernel
theorem dX1_beginClearing_31 : decode cX1_beginClearing 31 = .ok (.bipush 6, 2) := by decide +kernel
theorem dX1_beginClearing_33 : decode cX1_beginClearing 33 = .ok (.if_icmp .ge 21, 3) := by decide +kernel
theorem dX1_beginClearing_36 : decode cX1_beginClearing 36 = .ok (.aload_n 0, 1) := by decide +kernel
theorem dX1_beginClearing_37 : decode cX1_beginClearing 37 = .ok (.getfield 32, 3) := by decide +kernel
theorem dX1_beginClearing_40 : decode cX1_beginClearing 40 = .ok (.iload_n 1, 1) := by decide +kernel
theorem dX1_beginClearing_41 : decode cX1_beginClearing 41 = .ok (.aload_n 0, 1) := by decide +kernel
theorem dX1_beginClearing_42 : decode cX1_beginClearing 42 = .ok (.getfield 17, 3) := by decide +kernel
theorem dX1_beginClearing_45 : decode cX1_beginClearing 45 = .ok (.iload_n 1, 1) := by decide +kernel
theorem dX1_beginClearing_46 : decode cX1_beginClearing 46 = .ok (.iaload, 1) := by decide +kernel
theorem dX1_beginClearing_47 : decode cX1_beginClearing 47 = .ok (.iastore, 1) := by decide +kernel
theorem dX1_beginClearing_48 : decode cX1_beginClearing 48 = .ok (.iinc 1 1, 3) := by decide +kernel
theorem dX1_beginClearing_51 : decode cX1_beginClearing 51 = .ok (.goto (-21), 3) := by decide +kernel
theorem dX1_beginClearing_54 : decode cX1_beginClearing 54 = .ok (.return_, 1) := by decide +kernel
theorem dX1_beginNextQuarter_0 : decode cX1_beginNextQuarter 0 = .ok (.iconst 0, 1) := by decide +kernel
theorem dX1_beginNextQuarter_1 : decode cX1_beginNextQuarter 1 = .ok (.istore_n 1, 1) := by decide +kernel
theorem dX1_beginNextQuarter_2 : decode cX1_beginNextQuarter 2 = .ok (.iload_n 1, 1) := by decide +kernel
theorem dX1_beginNextQuarter_3 : decode cX1_beginNextQuarter 3 = .ok (.bipush 6, 2) := by decide +kernel
theorem dX1_beginNextQuarter_5 : decode cX1_beginNextQuarter 5 = .ok (.if_icmp .ge 23, 3) := by decide +kernel
theorem dX1_beginNextQuarter_8 : decode cX1_beginNextQuarter 8 = .ok (.aload_n 0, 1) := by decide +kernel
theorem dX1_beginNextQuarter_9 : decode cX1_beginNextQuarter 9 = .ok (.getfield 13, 3) := by decide +kernel
theorem dX1_beginNextQuarter_12 : decode cX1_beginNextQuarter 12 = .ok (.iload_n 1, 1) := by decide +kernel
theorem dX1_beginNextQuarter_13 : decode cX1_beginNextQuarter 13 = .ok (.iconst 0, 1) := by decide +kernel
theorem dX1_beginNextQuarter_14 : decode cX1_beginNextQuarter 14 = .ok (.iastore, 1) := by decide +kernel
theorem dX1_beginNextQuarter_15 : decode cX1_beginNextQuarter 15 = .ok (.aload_n 0, 1) := by decide +kernel
theorem dX1_beginNextQuarter_16 : decode cX1_beginNextQuarter 16 = .ok (.getfield 17, 3) := by decide +kernel
theorem dX1_beginNextQuarter_19 : decode cX1_beginNextQuarter 19 = .ok (.iload_n 1, 1) := by decide +kernel
theorem dX1_beginNextQuarter_20 : decode cX1_beginNextQuarter 20 = .ok (.iconst 0, 1) := by decide +kernel
theorem dX1_beginNextQuarter_21 : decode cX1_beginNextQuarter 21 = .ok (.iastore, 1) := by decide +kernel
theorem dX1_beginNextQuarter_22 : decode cX1_beginNextQuarter 22 = .ok (.iinc 1 1, 3) := by decide +kernel
theorem dX1_beginNextQuarter_25 : decode cX1_beginNextQuarter 25 = .ok (.goto (-23), 3) := by decide +kernel
theorem dX1_beginNextQuarter_28 : decode cX1_beginNextQuarter 28 = .ok (.aload_n 0, 1) := by decide +kernel
theorem dX1_beginNextQuarter_29 : decode cX1_beginNextQuarter 29 = .ok (.dup, 1) := by decide +kernel
theorem dX1_beginNextQuarter_30 : decode cX1_beginNextQuarter 30 = .ok (.getfield 64, 3) := by decide +kernel
theorem dX1_beginNextQuarter_33 : decode cX1_beginNextQuarter 33 = .ok (.iconst 1, 1) := by decide +kernel
theorem dX1_beginNextQuarter_34 : decode cX1_beginNextQuarter 34 = .ok (.iadd, 1) := by decide +kernel
theorem dX1_beginNextQuarter_35 : decode cX1_beginNextQuarter 35 = .ok (.putfield 64, 3) := by decide +kernel
theorem dX1_beginNextQuarter_38 : decode cX1_beginNextQuarter 38 = .ok (.return_, 1) := by decide +kernel
set_option maxRecDepth 20000 in
theorem ggX1_matchBuyers_X1_rankOf : GoodIn wsX1_matchBuyers wsX1_rankOf := goodIn_r _ [6, 7, 38, 39, 40, 41, 42, 43, 44, 45, 46, 47, 48, 49, 50, 51, 52, 53, 54] (by decide +kernel) (by decide +kernel)
set_option maxRecDepth 20000 in
theorem gX1_matchBuyers_X1_rankOf : GoodIn wsX1_matchBuyers (wsV RX1 169 RX1 yX1_rankOf wsX1_rankOf) := goodIn_app (goodIn_of _ (by decide +kernel)) ggX1_matchBuyers_X1_rankOf
set_option maxRecDepth 20000 in
theorem ggX1_matchBuyers_X1_serveBuyer : GoodIn wsX1_matchBuyers wsX1_serveBuyer := goodIn_r _ [11, 1, 12, 13, 14, 15, 16, 7, 17, 18, 19, 5, 20, 21, 22, 23, 24, 25, 26, 27, 28, 29, 30, 31, 32, 33, 34, 35, 36, 37, 38, 39, 40, 41, 42, 43, 44, 45, 46, 47, 48, 49, 50, 51, 52, 53, 54, 55, 56, 57, 58, 59, 60] (by decide +kernel) (by decide +kernel)
set_option maxRecDepth 20000 in
theorem gX1_matchBuyers_X1_serveBuyer : GoodIn wsX1_matchBuyers (wsV RX1 172 RX1 yX1_serveBuyer wsX1_serveBuyer) := goodIn_app (goodIn_of _ (by decide +kernel)) ggX1_matchBuyers_X1_serveBuyer
theorem dX1_matchBuyers_0 : decode cX1_matchBuyers 0 = .ok (.iconst 0, 1) := by decide +kernel
theorem dX1_matchBuyers_1 : decode cX1_matchBuyers 1 = .ok (.istore_n 1, 1) := by decide +kernel
theorem dX1_matchBuyers_2 : decode cX1_matchBuyers 2 = .ok (.iload_n 1, 1) := by decide +kernel
theorem dX1_matchBuyers_3 : decode cX1_matchBuyers 3 = .ok (.bipush 6, 2) := by decide +kernel
theorem dX1_matchBuyers_5 : decode cX1_matchBuyers 5 = .ok (.if_icmp .ge 46, 3) := by decide +kernel
theorem dX1_matchBuyers_8 : decode cX1_matchBuyers 8 = .ok (.iconst 0, 1) := by decide +kernel
theorem dX1_matchBuyers_9 : decode cX1_matchBuyers 9 = .ok (.istore_n 2, 1) := by decide +kernel
theorem dX1_matchBuyers_10 : decode cX1_matchBuyers 10 = .ok (.iload_n 2, 1) := by decide +kernel
theorem dX1_matchBuyers_11 : decode cX1_matchBuyers 11 = .ok (.bipush 6, 2) := by decide +kernel
theorem dX1_matchBuyers_13 : decode cX1_matchBuyers 13 = .ok (.if_icmp .ge 32, 3) := by decide +kernel
theorem dX1_matchBuyers_16 : decode cX1_matchBuyers 16 = .ok (.aload_n 0, 1) := by decide +kernel
theorem dX1_matchBuyers_17 : decode cX1_matchBuyers 17 = .ok (.getfield 32, 3) := by decide +kernel
theorem dX1_matchBuyers_20 : decode cX1_matchBuyers 20 = .ok (.iload_n 2, 1) := by decide +kernel
theorem dX1_matchBuyers_21 : decode cX1_matchBuyers 21 = .ok (.iaload, 1) := by decide +kernel
theorem dX1_matchBuyers_22 : decode cX1_matchBuyers 22 = .ok (.ifCond .ge 17, 3) := by decide +kernel
theorem dX1_matchBuyers_25 : decode cX1_matchBuyers 25 = .ok (.aload_n 0, 1) := by decide +kernel
theorem dX1_matchBuyers_26 : decode cX1_matchBuyers 26 = .ok (.iload_n 2, 1) := by decide +kernel
theorem dX1_matchBuyers_27 : decode cX1_matchBuyers 27 = .ok (.invokevirtual 169, 3) := by decide +kernel
theorem dX1_matchBuyers_30 : decode cX1_matchBuyers 30 = .ok (.iload_n 1, 1) := by decide +kernel
theorem dX1_matchBuyers_31 : decode cX1_matchBuyers 31 = .ok (.if_icmp .ne 8, 3) := by decide +kernel
theorem dX1_matchBuyers_34 : decode cX1_matchBuyers 34 = .ok (.aload_n 0, 1) := by decide +kernel
theorem dX1_matchBuyers_35 : decode cX1_matchBuyers 35 = .ok (.iload_n 2, 1) := by decide +kernel
theorem dX1_matchBuyers_36 : decode cX1_matchBuyers 36 = .ok (.invokevirtual 172, 3) := by decide +kernel
theorem dX1_matchBuyers_39 : decode cX1_matchBuyers 39 = .ok (.iinc 2 1, 3) := by decide +kernel
theorem dX1_matchBuyers_42 : decode cX1_matchBuyers 42 = .ok (.goto (-32), 3) := by decide +kernel
theorem dX1_matchBuyers_45 : decode cX1_matchBuyers 45 = .ok (.iinc 1 1, 3) := by decide +kernel
theorem dX1_matchBuyers_48 : decode cX1_matchBuyers 48 = .ok (.goto (-46), 3) := by decide +kernel
theorem dX1_matchBuyers_51 : decode cX1_matchBuyers 51 = .ok (.return_, 1) := by decide +kernel
theorem dX1_rankOf_0 : decode cX1_rankOf 0 = .ok (.iconst 0, 1) := by decide +kernel
theorem dX1_rankOf_1 : decode cX1_rankOf 1 = .ok (.istore_n 2, 1) := by decide +kernel
theorem dX1_rankOf_2 : decode cX1_rankOf 2 = .ok (.iconst 0, 1) := by decide +kernel
theorem dX1_rankOf_3 : decode cX1_rankOf 3 = .ok (.istore_n 3, 1) := by decide +kernel
theorem dX1_rankOf_4 : decode cX1_rankOf 4 = .ok (.iload_n 3, 1) := by decide +kernel
theorem dX1_rankOf_5 : decode cX1_rankOf 5 = .ok (.bipush 6, 2) := by decide +kernel
theorem dX1_rankOf_7 : decode cX1_rankOf 7 = .ok (.if_icmp .ge 47, 3) := by decide +kernel
theorem dX1_rankOf_10 : decode cX1_rankOf 10 = .ok (.aload_n 0, 1) := by decide +kernel
theorem dX1_rankOf_11 : decode cX1_rankOf 11 = .ok (.getfield 20, 3) := by decide +kernel
theorem dX1_rankOf_14 : decode cX1_rankOf 14 = .ok (.iload_n 3, 1) := by decide +kernel
theorem dX1_rankOf_15 : decode cX1_rankOf 15 = .ok (.iaload, 1) := by decide +kernel
theorem dX1_rankOf_16 : decode cX1_rankOf 16 = .ok (.aload_n 0, 1) := by decide +kernel
theorem dX1_rankOf_17 : decode cX1_rankOf 17 = .ok (.getfield 20, 3) := by decide +kernel
theorem dX1_rankOf_20 : decode cX1_rankOf 20 = .ok (.iload_n 1, 1) := by decide +kernel
theorem dX1_rankOf_21 : decode cX1_rankOf 21 = .ok (.iaload, 1) := by decide +kernel
theorem dX1_rankOf_22 : decode cX1_rankOf 22 = .ok (.if_icmp .gt 23, 3) := by decide +kernel
theorem dX1_rankOf_25 : decode cX1_rankOf 25 = .ok (.aload_n 0, 1) := by decide +kernel
theorem dX1_rankOf_26 : decode cX1_rankOf 26 = .ok (.getfield 20, 3) := by decide +kernel
theorem dX1_rankOf_29 : decode cX1_rankOf 29 = .ok (.iload_n 3, 1) := by decide +kernel
theorem dX1_rankOf_30 : decode cX1_rankOf 30 = .ok (.iaload, 1) := by decide +kernel
theorem dX1_rankOf_31 : decode cX1_rankOf 31 = .ok (.aload_n 0, 1) := by decide +kernel
theorem dX1_rankOf_32 : decode cX1_rankOf 32 = .ok (.getfield 20, 3) := by decide +kernel
theorem dX1_rankOf_35 : decode cX1_rankOf 35 = .ok (.iload_n 1, 1) := by decide +kernel
theorem dX1_rankOf_36 : decode cX1_rankOf 36 = .ok (.iaload, 1) := by decide +kernel
theorem dX1_rankOf_37 : decode cX1_rankOf 37 = .ok (.if_icmp .ne 11, 3) := by decide +kernel
theorem dX1_rankOf_40 : decode cX1_rankOf 40 = .ok (.iload_n 3, 1) := by decide +kernel
theorem dX1_rankOf_41 : decode cX1_rankOf 41 = .ok (.iload_n 1, 1) := by decide +kernel
theorem dX1_rankOf_42 : decode cX1_rankOf 42 = .ok (.if_icmp .ge 6, 3) := by decide +kernel
theorem dX1_rankOf_45 : decode cX1_rankOf 45 = .ok (.iinc 2 1, 3) := by decide +kernel
theorem dX1_rankOf_48 : decode cX1_rankOf 48 = .ok (.iinc 3 1, 3) := by decide +kernel
theorem dX1_rankOf_51 : decode cX1_rankOf 51 = .ok (.goto (-47), 3) := by decide +kernel
theorem dX1_rankOf_54 : decode cX1_rankOf 54 = .ok (.iload_n 2, 1) := by decide +kernel
theorem dX1_rankOf_55 : decode cX1_rankOf 55 = .ok (.ireturn, 1) := by decide +kernel
set_option maxRecDepth 20000 in
theorem ggX1_serveBuyer_X1_bestSeller : GoodIn wsX1_serveBuyer wsX1_bestSeller := goodIn_r _ [12, 1, 7, 13, 14, 15, 11, 16, 17, 18, 4, 19, 30, 31, 32, 33, 34, 35, 36, 37, 38, 39, 40, 41, 42, 43, 44, 45, 46] (by decide +kernel) (by decide +kernel)
set_option maxRecDepth 20000 in
theorem gX1_serveBuyer_X1_bestSeller : GoodIn wsX1_serveBuyer (wsV RX1 175 RX1 yX1_bestSeller wsX1_bestSeller) := goodIn_app (goodIn_of _ (by decide +kernel)) ggX1_serveBuyer_X1_bestSeller
set_option maxRecDepth 20000 in
theorem ggX1_serveBuyer_X0_add : GoodIn wsX1_serveBuyer wsX0_add := goodIn_r _ [23, 24, 25, 26, 27, 28, 29, 47, 48, 49, 50, 51, 52] (by decide +kernel) (by decide +kernel)
set_option maxRecDepth 20000 in
theorem gX1_serveBuyer_X0_add_n178 : GoodIn wsX1_serveBuyer (wsX0_add) := ggX1_serveBuyer_X0_add
theorem dX1_serveBuyer_0 : decode cX1_serveBuyer 0 = .ok (.iconst 0, 1) := by decide +kernel
theorem dX1_serveBuyer_1 : decode cX1_serveBuyer 1 = .ok (.istore_n 2, 1) := by decide +kernel
theorem dX1_serveBuyer_2 : decode cX1_serveBuyer 2 = .ok (.iload_n 2, 1) := by decide +kernel
theorem dX1_serveBuyer_3 : decode cX1_serveBuyer 3 = .ok (.bipush 6, 2) := by decide +kernel
theorem dX1_serveBuyer_5 : decode cX1_serveBuyer 5 = .ok (.if_icmp .ge 95, 3) := by decide +kernel
theorem dX1_serveBuyer_8 : decode cX1_serveBuyer 8 = .ok (.aload_n 0, 1) := by decide +kernel
theorem dX1_serveBuyer_9 : decode cX1_serveBuyer 9 = .ok (.getfield 32, 3) := by decide +kernel
theorem dX1_serveBuyer_12 : decode cX1_serveBuyer 12 = .ok (.iload_n 1, 1) := by decide +kernel
theorem dX1_serveBuyer_13 : decode cX1_serveBuyer 13 = .ok (.iaload, 1) := by decide +kernel
theorem dX1_serveBuyer_14 : decode cX1_serveBuyer 14 = .ok (.ifCond .ge 86, 3) := by decide +kernel
theorem dX1_serveBuyer_17 : decode cX1_serveBuyer 17 = .ok (.aload_n 0, 1) := by decide +kernel
theorem dX1_serveBuyer_18 : decode cX1_serveBuyer 18 = .ok (.iload_n 1, 1) := by decide +kernel
theorem dX1_serveBuyer_19 : decode cX1_serveBuyer 19 = .ok (.invokevirtual 175, 3) := by decide +kernel
theorem dX1_serveBuyer_22 : decode cX1_serveBuyer 22 = .ok (.istore_n 3, 1) := by decide +kernel
theorem dX1_serveBuyer_23 : decode cX1_serveBuyer 23 = .ok (.iload_n 3, 1) := by decide +kernel
theorem dX1_serveBuyer_24 : decode cX1_serveBuyer 24 = .ok (.ifCond .ge 4, 3) := by decide +kernel
theorem dX1_serveBuyer_27 : decode cX1_serveBuyer 27 = .ok (.return_, 1) := by decide +kernel
theorem dX1_serveBuyer_28 : decode cX1_serveBuyer 28 = .ok (.aload_n 0, 1) := by decide +kernel
theorem dX1_serveBuyer_29 : decode cX1_serveBuyer 29 = .ok (.getfield 32, 3) := by decide +kernel
theorem dX1_serveBuyer_32 : decode cX1_serveBuyer 32 = .ok (.iload_n 3, 1) := by decide +kernel
theorem dX1_serveBuyer_33 : decode cX1_serveBuyer 33 = .ok (.iaload, 1) := by decide +kernel
theorem dX1_serveBuyer_34 : decode cX1_serveBuyer 34 = .ok (.aload_n 0, 1) := by decide +kernel
theorem dX1_serveBuyer_35 : decode cX1_serveBuyer 35 = .ok (.getfield 32, 3) := by decide +kernel
theorem dX1_serveBuyer_38 : decode cX1_serveBuyer 38 = .ok (.iload_n 1, 1) := by decide +kernel
theorem dX1_serveBuyer_39 : decode cX1_serveBuyer 39 = .ok (.iaload, 1) := by decide +kernel
theorem dX1_serveBuyer_40 : decode cX1_serveBuyer 40 = .ok (.ineg, 1) := by decide +kernel
theorem dX1_serveBuyer_41 : decode cX1_serveBuyer 41 = .ok (.invokestatic 132, 3) := by decide +kernel
theorem dX1_serveBuyer_44 : decode cX1_serveBuyer 44 = .ok (.istore 4, 2) := by decide +kernel
theorem dX1_serveBuyer_46 : decode cX1_serveBuyer 46 = .ok (.aload_n 0, 1) := by decide +kernel
theorem dX1_serveBuyer_47 : decode cX1_serveBuyer 47 = .ok (.getfield 32, 3) := by decide +kernel
theorem dX1_serveBuyer_50 : decode cX1_serveBuyer 50 = .ok (.iload_n 3, 1) := by decide +kernel
theorem dX1_serveBuyer_51 : decode cX1_serveBuyer 51 = .ok (.dup2, 1) := by decide +kernel
theorem dX1_serveBuyer_52 : decode cX1_serveBuyer 52 = .ok (.iaload, 1) := by decide +kernel
theorem dX1_serveBuyer_53 : decode cX1_serveBuyer 53 = .ok (.iload 4, 2) := by decide +kernel
theorem dX1_serveBuyer_55 : decode cX1_serveBuyer 55 = .ok (.isub, 1) := by decide +kernel
theorem dX1_serveBuyer_56 : decode cX1_serveBuyer 56 = .ok (.iastore, 1) := by decide +kernel
theorem dX1_serveBuyer_57 : decode cX1_serveBuyer 57 = .ok (.aload_n 0, 1) := by decide +kernel
theorem dX1_serveBuyer_58 : decode cX1_serveBuyer 58 = .ok (.getfield 32, 3) := by decide +kernel
theorem dX1_serveBuyer_61 : decode cX1_serveBuyer 61 = .ok (.iload_n 1, 1) := by decide +kernel
theorem dX1_serveBuyer_62 : decode cX1_serveBuyer 62 = .ok (.dup2, 1) := by decide +kernel
theorem dX1_serveBuyer_63 : decode cX1_serveBuyer 63 = .ok (.iaload, 1) := by decide +kernel
theorem dX1_serveBuyer_64 : decode cX1_serveBuyer 64 = .ok (.iload 4, 2) := by decide +kernel
theorem dX1_serveBuyer_66 : decode cX1_serveBuyer 66 = .ok (.iadd, 1) := by decide +kernel
theorem dX1_serveBuyer_67 : decode cX1_serveBuyer 67 = .ok (.iastore, 1) := by decide +kernel
theorem dX1_serveBuyer_68 : decode cX1_serveBuyer 68 = .ok (.aload_n 0, 1) := by decide +kernel
theorem dX1_serveBuyer_69 : decode cX1_serveBuyer 69 = .ok (.getfield 47, 3) := by decide +kernel
theorem dX1_serveBuyer_72 : decode cX1_serveBuyer 72 = .ok (.iload_n 3, 1) := by decide +kernel
theorem dX1_serveBuyer_73 : decode cX1_serveBuyer 73 = .ok (.iload_n 1, 1) := by decide +kernel
theorem dX1_serveBuyer_74 : decode cX1_serveBuyer 74 = .ok (.iload 4, 2) := by decide +kernel
theorem dX1_serveBuyer_76 : decode cX1_serveBuyer 76 = .ok (.aload_n 0, 1) := by decide +kernel
theorem dX1_serveBuyer_77 : decode cX1_serveBuyer 77 = .ok (.getfield 20, 3) := by decide +kernel
theorem dX1_serveBuyer_80 : decode cX1_serveBuyer 80 = .ok (.iload_n 3, 1) := by decide +kernel
theorem dX1_serveBuyer_81 : decode cX1_serveBuyer 81 = .ok (.iaload, 1) := by decide +kernel
theorem dX1_serveBuyer_82 : decode cX1_serveBuyer 82 = .ok (.aload_n 0, 1) := by decide +kernel
theorem dX1_serveBuyer_83 : decode cX1_serveBuyer 83 = .ok (.getfield 20, 3) := by decide +kernel
theorem dX1_serveBuyer_86 : decode cX1_serveBuyer 86 = .ok (.iload_n 1, 1) := by decide +kernel
theorem dX1_serveBuyer_87 : decode cX1_serveBuyer 87 = .ok (.iaload, 1) := by decide +kernel
theorem dX1_serveBuyer_88 : decode cX1_serveBuyer 88 = .ok (.iadd, 1) := by decide +kernel
theorem dX1_serveBuyer_89 : decode cX1_serveBuyer 89 = .ok (.iconst 2, 1) := by decide +kernel
theorem dX1_serveBuyer_90 : decode cX1_serveBuyer 90 = .ok (.idiv, 1) := by decide +kernel
theorem dX1_serveBuyer_91 : decode cX1_serveBuyer 91 = .ok (.invokevirtual 178, 3) := by decide +kernel
theorem dX1_serveBuyer_94 : decode cX1_serveBuyer 94 = .ok (.iinc 2 1, 3) := by decide +kernel
theorem dX1_serveBuyer_97 : decode cX1_serveBuyer 97 = .ok (.goto (-95), 3) := by decide +kernel
theorem dX1_serveBuyer_100 : decode cX1_serveBuyer 100 = .ok (.return_, 1) := by decide +kernel
set_option maxRecDepth 20000 in
theorem ggX1_bestSeller_X1_isBetterSeller : GoodIn wsX1_bestSeller wsX1_isBetterSeller := goodIn_r _ [7, 2, 8, 9, 10, 11, 12, 13, 14, 15, 16, 17, 18, 19, 20, 21, 22, 23, 24, 25, 26, 27, 28] (by decide +kernel) (by decide +kernel)
set_option maxRecDepth 20000 in
theorem gX1_bestSeller_X1_isBetterSeller : GoodIn wsX1_bestSeller (wsV RX1 182 RX1 yX1_isBetterSeller wsX1_isBetterSeller) := goodIn_app (goodIn_of _ (by decide +kernel)) ggX1_bestSeller_X1_isBetterSeller
theorem dX1_bestSeller_0 : decode cX1_bestSeller 0 = .ok (.iconst (-1), 1) := by decide +kernel
theorem dX1_bestSeller_1 : decode cX1_bestSeller 1 = .ok (.istore_n 2, 1) := by decide +kernel
theorem dX1_bestSeller_2 : decode cX1_bestSeller 2 = .ok (.iconst 0, 1) := by decide +kernel
theorem dX1_bestSeller_3 : decode cX1_bestSeller 3 = .ok (.istore_n 3, 1) := by decide +kernel
theorem dX1_bestSeller_4 : decode cX1_bestSeller 4 = .ok (.iload_n 3, 1) := by decide +kernel
theorem dX1_bestSeller_5 : decode cX1_bestSeller 5 = .ok (.bipush 6, 2) := by decide +kernel
theorem dX1_bestSeller_7 : decode cX1_bestSeller 7 = .ok (.if_icmp .ge 49, 3) := by decide +kernel
theorem dX1_bestSeller_10 : decode cX1_bestSeller 10 = .ok (.aload_n 0, 1) := by decide +kernel
theorem dX1_bestSeller_11 : decode cX1_bestSeller 11 = .ok (.getfield 32, 3) := by decide +kernel
theorem dX1_bestSeller_14 : decode cX1_bestSeller 14 = .ok (.iload_n 3, 1) := by decide +kernel
theorem dX1_bestSeller_15 : decode cX1_bestSeller 15 = .ok (.iaload, 1) := by decide +kernel
theorem dX1_bestSeller_16 : decode cX1_bestSeller 16 = .ok (.ifCond .le 34, 3) := by decide +kernel
theorem dX1_bestSeller_19 : decode cX1_bestSeller 19 = .ok (.aload_n 0, 1) := by decide +kernel
theorem dX1_bestSeller_20 : decode cX1_bestSeller 20 = .ok (.getfield 20, 3) := by decide +kernel
theorem dX1_bestSeller_23 : decode cX1_bestSeller 23 = .ok (.iload_n 3, 1) := by decide +kernel
theorem dX1_bestSeller_24 : decode cX1_bestSeller 24 = .ok (.iaload, 1) := by decide +kernel
theorem dX1_bestSeller_25 : decode cX1_bestSeller 25 = .ok (.aload_n 0, 1) := by decide +kernel
theorem dX1_bestSeller_26 : decode cX1_bestSeller 26 = .ok (.getfield 20, 3) := by decide +kernel
theorem dX1_bestSeller_29 : decode cX1_bestSeller 29 = .ok (.iload_n 1, 1) := by decide +kernel
theorem dX1_bestSeller_30 : decode cX1_bestSeller 30 = .ok (.iaload, 1) := by decide +kernel
theorem dX1_bestSeller_31 : decode cX1_bestSeller 31 = .ok (.if_icmp .gt 19, 3) := by decide +kernel
theorem dX1_bestSeller_34 : decode cX1_bestSeller 34 = .ok (.iload_n 2, 1) := by decide +kernel
theorem dX1_bestSeller_35 : decode cX1_bestSeller 35 = .ok (.ifCond .lt 13, 3) := by decide +kernel
theorem dX1_bestSeller_38 : decode cX1_bestSeller 38 = .ok (.aload_n 0, 1) := by decide +kernel
theorem dX1_bestSeller_39 : decode cX1_bestSeller 39 = .ok (.iload_n 3, 1) := by decide +kernel
theorem dX1_bestSeller_40 : decode cX1_bestSeller 40 = .ok (.iload_n 2, 1) := by decide +kernel
theorem dX1_bestSeller_41 : decode cX1_bestSeller 41 = .ok (.iload_n 1, 1) := by decide +kernel
theorem dX1_bestSeller_42 : decode cX1_bestSeller 42 = .ok (.invokevirtual 182, 3) := by decide +kernel
theorem dX1_bestSeller_45 : decode cX1_bestSeller 45 = .ok (.ifCond .eq 5, 3) := by decide +kernel
theorem dX1_bestSeller_48 : decode cX1_bestSeller 48 = .ok (.iload_n 3, 1) := by decide +kernel
theorem dX1_bestSeller_49 : decode cX1_bestSeller 49 = .ok (.istore_n 2, 1) := by decide +kernel
theorem dX1_bestSeller_50 : decode cX1_bestSeller 50 = .ok (.iinc 3 1, 3) := by decide +kernel
theorem dX1_bestSeller_53 : decode cX1_bestSeller 53 = .ok (.goto (-49), 3) := by decide +kernel
theorem dX1_bestSeller_56 : decode cX1_bestSeller 56 = .ok (.iload_n 2, 1) := by decide +kernel
theorem dX1_bestSeller_57 : decode cX1_bestSeller 57 = .ok (.ireturn, 1) := by decide +kernel
theorem dX1_isBetterSeller_0 : decode cX1_isBetterSeller 0 = .ok (.aload_n 0, 1) := by decide +kernel
theorem dX1_isBetterSeller_1 : decode cX1_isBetterSeller 1 = .ok (.getfield 20, 3) := by decide +kernel
theorem dX1_isBetterSeller_4 : decode cX1_isBetterSeller 4 = .ok (.iload_n 1, 1) := by decide +kernel
theorem dX1_isBetterSeller_5 : decode cX1_isBetterSeller 5 = .ok (.iaload, 1) := by decide +kernel
theorem dX1_isBetterSeller_6 : decode cX1_isBetterSeller 6 = .ok (.aload_n 0, 1) := by decide +kernel
theorem dX1_isBetterSeller_7 : decode cX1_isBetterSeller 7 = .ok (.getfield 20, 3) := by decide +kernel
theorem dX1_isBetterSeller_10 : decode cX1_isBetterSeller 10 = .ok (.iload_n 2, 1) := by decide +kernel
theorem dX1_isBetterSeller_11 : decode cX1_isBetterSeller 11 = .ok (.iaload, 1) := by decide +kernel
theorem dX1_isBetterSeller_12 : decode cX1_isBetterSeller 12 = .ok (.if_icmp .eq 24, 3) := by decide +kernel
theorem dX1_isBetterSeller_15 : decode cX1_isBetterSeller 15 = .ok (.aload_n 0, 1) := by decide +kernel
theorem dX1_isBetterSeller_16 : decode cX1_isBetterSeller 16 = .ok (.getfield 20, 3) := by decide +kernel
theorem dX1_isBetterSeller_19 : decode cX1_isBetterSeller 19 = .ok (.iload_n 1, 1) := by decide +kernel
theorem dX1_isBetterSeller_20 : decode cX1_isBetterSeller 20 = .ok (.iaload, 1) := by decide +kernel
theorem dX1_isBetterSeller_21 : decode cX1_isBetterSeller 21 = .ok (.aload_n 0, 1) := by decide +kernel
theorem dX1_isBetterSeller_22 : decode cX1_isBetterSeller 22 = .ok (.getfield 20, 3) := by decide +kernel
theorem dX1_isBetterSeller_25 : decode cX1_isBetterSeller 25 = .ok (.iload_n 2, 1) := by decide +kernel
theorem dX1_isBetterSeller_26 : decode cX1_isBetterSeller 26 = .ok (.iaload, 1) := by decide +kernel
theorem dX1_isBetterSeller_27 : decode cX1_isBetterSeller 27 = .ok (.if_icmp .ge 7, 3) := by decide +kernel
theorem dX1_isBetterSeller_30 : decode cX1_isBetterSeller 30 = .ok (.iconst 1, 1) := by decide +kernel
theorem dX1_isBetterSeller_31 : decode cX1_isBetterSeller 31 = .ok (.goto 4, 3) := by decide +kernel
theorem dX1_isBetterSeller_34 : decode cX1_isBetterSeller 34 = .ok (.iconst 0, 1) := by decide +kernel
theorem dX1_isBetterSeller_35 : decode cX1_isBetterSeller 35 = .ok (.ireturn, 1) := by decide +kernel
theorem dX1_isBetterSeller_36 : decode cX1_isBetterSeller 36 = .ok (.iload_n 1, 1) := by decide +kernel
theorem dX1_isBetterSeller_37 : decode cX1_isBetterSeller 37 = .ok (.iload_n 3, 1) := by decide +kernel
theorem dX1_isBetterSeller_38 : decode cX1_isBetterSeller 38 = .ok (.isub, 1) := by decide +kernel
theorem dX1_isBetterSeller_39 : decode cX1_isBetterSeller 39 = .ok (.invokestatic 120, 3) := by decide +kernel
theorem dX1_isBetterSeller_42 : decode cX1_isBetterSeller 42 = .ok (.iload_n 2, 1) := by decide +kernel
theorem dX1_isBetterSeller_43 : decode cX1_isBetterSeller 43 = .ok (.iload_n 3, 1) := by decide +kernel
theorem dX1_isBetterSeller_44 : decode cX1_isBetterSeller 44 = .ok (.isub, 1) := by decide +kernel
theorem dX1_isBetterSeller_45 : decode cX1_isBetterSeller 45 = .ok (.invokestatic 120, 3) := by decide +kernel
theorem dX1_isBetterSeller_48 : decode cX1_isBetterSeller 48 = .ok (.if_icmp .ge 7, 3) := by decide +kernel
theorem dX1_isBetterSeller_51 : decode cX1_isBetterSeller 51 = .ok (.iconst 1, 1) := by decide +kernel
theorem dX1_isBetterSeller_52 : decode cX1_isBetterSeller 52 = .ok (.goto 4, 3) := by decide +kernel
theorem dX1_isBetterSeller_55 : decode cX1_isBetterSeller 55 = .ok (.iconst 0, 1) := by decide +kernel
theorem dX1_isBetterSeller_56 : decode cX1_isBetterSeller 56 = .ok (.ireturn, 1) := by decide +kernel
set_option maxRecDepth 20000 in
theorem ggX1_cutOverLimits_X0_cutOver : GoodIn wsX1_cutOverLimits wsX0_cutOver := goodIn_r _ [6, 7, 8, 9, 10, 11, 12, 13, 14, 15, 16, 17, 18, 19, 20, 21, 4, 22, 23, 24, 25, 43, 44, 45, 46, 47, 48] (by decide +kernel) (by decide +kernel)
set_option maxRecDepth 20000 in
theorem gX1_cutOverLimits_X0_cutOver_n186 : GoodIn wsX1_cutOverLimits (wsX0_cutOver) := ggX1_cutOverLimits_X0_cutOver
theorem dX1_cutOverLimits_0 : decode cX1_cutOverLimits 0 = .ok (.iconst 1, 1) := by decide +kernel
theorem dX1_cutOverLimits_1 : decode cX1_cutOverLimits 1 = .ok (.istore_n 1, 1) := by decide +kernel
theorem dX1_cutOverLimits_2 : decode cX1_cutOverLimits 2 = .ok (.iconst 0, 1) := by decide +kernel
theorem dX1_cutOverLimits_3 : decode cX1_cutOverLimits 3 = .ok (.istore_n 2, 1) := by decide +kernel
theorem dX1_cutOverLimits_4 : decode cX1_cutOverLimits 4 = .ok (.iload_n 2, 1) := by decide +kernel
theorem dX1_cutOverLimits_5 : decode cX1_cutOverLimits 5 = .ok (.sipush 1000, 3) := by decide +kernel
theorem dX1_cutOverLimits_8 : decode cX1_cutOverLimits 8 = .ok (.if_icmp .ge 46, 3) := by decide +kernel
theorem dX1_cutOverLimits_11 : decode cX1_cutOverLimits 11 = .ok (.iload_n 1, 1) := by decide +kernel
theorem dX1_cutOverLimits_12 : decode cX1_cutOverLimits 12 = .ok (.ifCond .eq 42, 3) := by decide +kernel
theorem dX1_cutOverLimits_15 : decode cX1_cutOverLimits 15 = .ok (.iconst 0, 1) := by decide +kernel
theorem dX1_cutOverLimits_16 : decode cX1_cutOverLimits 16 = .ok (.istore_n 1, 1) := by decide +kernel
theorem dX1_cutOverLimits_17 : decode cX1_cutOverLimits 17 = .ok (.iconst 4, 1) := by decide +kernel
theorem dX1_cutOverLimits_18 : decode cX1_cutOverLimits 18 = .ok (.istore_n 3, 1) := by decide +kernel
theorem dX1_cutOverLimits_19 : decode cX1_cutOverLimits 19 = .ok (.iload_n 3, 1) := by decide +kernel
theorem dX1_cutOverLimits_20 : decode cX1_cutOverLimits 20 = .ok (.ifCond .lt 28, 3) := by decide +kernel
theorem dX1_cutOverLimits_23 : decode cX1_cutOverLimits 23 = .ok (.aload_n 0, 1) := by decide +kernel
theorem dX1_cutOverLimits_24 : decode cX1_cutOverLimits 24 = .ok (.getfield 47, 3) := by decide +kernel
theorem dX1_cutOverLimits_27 : decode cX1_cutOverLimits 27 = .ok (.iload_n 3, 1) := by decide +kernel
theorem dX1_cutOverLimits_28 : decode cX1_cutOverLimits 28 = .ok (.aload_n 0, 1) := by decide +kernel
theorem dX1_cutOverLimits_29 : decode cX1_cutOverLimits 29 = .ok (.getfield 35, 3) := by decide +kernel
theorem dX1_cutOverLimits_32 : decode cX1_cutOverLimits 32 = .ok (.iload_n 3, 1) := by decide +kernel
theorem dX1_cutOverLimits_33 : decode cX1_cutOverLimits 33 = .ok (.iaload, 1) := by decide +kernel
theorem dX1_cutOverLimits_34 : decode cX1_cutOverLimits 34 = .ok (.invokevirtual 186, 3) := by decide +kernel
theorem dX1_cutOverLimits_37 : decode cX1_cutOverLimits 37 = .ok (.ifCond .eq 5, 3) := by decide +kernel
theorem dX1_cutOverLimits_40 : decode cX1_cutOverLimits 40 = .ok (.iconst 1, 1) := by decide +kernel
theorem dX1_cutOverLimits_41 : decode cX1_cutOverLimits 41 = .ok (.istore_n 1, 1) := by decide +kernel
theorem dX1_cutOverLimits_42 : decode cX1_cutOverLimits 42 = .ok (.iinc 3 (-1), 3) := by decide +kernel
theorem dX1_cutOverLimits_45 : decode cX1_cutOverLimits 45 = .ok (.goto (-26), 3) := by decide +kernel
theorem dX1_cutOverLimits_48 : decode cX1_cutOverLimits 48 = .ok (.iinc 2 1, 3) := by decide +kernel
theorem dX1_cutOverLimits_51 : decode cX1_cutOverLimits 51 = .ok (.goto (-47), 3) := by decide +kernel
theorem dX1_cutOverLimits_54 : decode cX1_cutOverLimits 54 = .ok (.return_, 1) := by decide +kernel
set_option maxRecDepth 20000 in
theorem ggX1_countTrades_X0_flowOver : GoodIn wsX1_countTrades wsX0_flowOver := goodIn_r _ [8, 9, 10, 11, 12, 13, 14, 6, 15, 33, 34, 35, 36, 37, 38] (by decide +kernel) (by decide +kernel)
set_option maxRecDepth 20000 in
theorem gX1_countTrades_X0_flowOver_n193 : GoodIn wsX1_countTrades (wsX0_flowOver) := ggX1_countTrades_X0_flowOver
theorem dX1_countTrades_0 : decode cX1_countTrades 0 = .ok (.iconst 0, 1) := by decide +kernel
theorem dX1_countTrades_1 : decode cX1_countTrades 1 = .ok (.istore_n 1, 1) := by decide +kernel
theorem dX1_countTrades_2 : decode cX1_countTrades 2 = .ok (.iload_n 1, 1) := by decide +kernel
theorem dX1_countTrades_3 : decode cX1_countTrades 3 = .ok (.aload_n 0, 1) := by decide +kernel
theorem dX1_countTrades_4 : decode cX1_countTrades 4 = .ok (.getfield 47, 3) := by decide +kernel
theorem dX1_countTrades_7 : decode cX1_countTrades 7 = .ok (.getfield 136, 3) := by decide +kernel
theorem dX1_countTrades_10 : decode cX1_countTrades 10 = .ok (.if_icmp .ge 45, 3) := by decide +kernel
theorem dX1_countTrades_13 : decode cX1_countTrades 13 = .ok (.aload_n 0, 1) := by decide +kernel
theorem dX1_countTrades_14 : decode cX1_countTrades 14 = .ok (.getfield 41, 3) := by decide +kernel
theorem dX1_countTrades_17 : decode cX1_countTrades 17 = .ok (.iconst 0, 1) := by decide +kernel
theorem dX1_countTrades_18 : decode cX1_countTrades 18 = .ok (.dup2, 1) := by decide +kernel
theorem dX1_countTrades_19 : decode cX1_countTrades 19 = .ok (.iaload, 1) := by decide +kernel
theorem dX1_countTrades_20 : decode cX1_countTrades 20 = .ok (.aload_n 0, 1) := by decide +kernel
theorem dX1_countTrades_21 : decode cX1_countTrades 21 = .ok (.getfield 47, 3) := by decide +kernel
theorem dX1_countTrades_24 : decode cX1_countTrades 24 = .ok (.getfield 150, 3) := by decide +kernel
theorem dX1_countTrades_27 : decode cX1_countTrades 27 = .ok (.iload_n 1, 1) := by decide +kernel
theorem dX1_countTrades_28 : decode cX1_countTrades 28 = .ok (.iaload, 1) := by decide +kernel
theorem dX1_countTrades_29 : decode cX1_countTrades 29 = .ok (.iadd, 1) := by decide +kernel
theorem dX1_countTrades_30 : decode cX1_countTrades 30 = .ok (.iastore, 1) := by decide +kernel
theorem dX1_countTrades_31 : decode cX1_countTrades 31 = .ok (.aload_n 0, 1) := by decide +kernel
theorem dX1_countTrades_32 : decode cX1_countTrades 32 = .ok (.getfield 41, 3) := by decide +kernel
theorem dX1_countTrades_35 : decode cX1_countTrades 35 = .ok (.iconst 1, 1) := by decide +kernel
theorem dX1_countTrades_36 : decode cX1_countTrades 36 = .ok (.dup2, 1) := by decide +kernel
theorem dX1_countTrades_37 : decode cX1_countTrades 37 = .ok (.iaload, 1) := by decide +kernel
theorem dX1_countTrades_38 : decode cX1_countTrades 38 = .ok (.aload_n 0, 1) := by decide +kernel
theorem dX1_countTrades_39 : decode cX1_countTrades 39 = .ok (.getfield 47, 3) := by decide +kernel
theorem dX1_countTrades_42 : decode cX1_countTrades 42 = .ok (.getfield 190, 3) := by decide +kernel
theorem dX1_countTrades_45 : decode cX1_countTrades 45 = .ok (.iload_n 1, 1) := by decide +kernel
theorem dX1_countTrades_46 : decode cX1_countTrades 46 = .ok (.iaload, 1) := by decide +kernel
theorem dX1_countTrades_47 : decode cX1_countTrades 47 = .ok (.iadd, 1) := by decide +kernel
theorem dX1_countTrades_48 : decode cX1_countTrades 48 = .ok (.iastore, 1) := by decide +kernel
theorem dX1_countTrades_49 : decode cX1_countTrades 49 = .ok (.iinc 1 1, 3) := by decide +kernel
theorem dX1_countTrades_52 : decode cX1_countTrades 52 = .ok (.goto (-50), 3) := by decide +kernel
theorem dX1_countTrades_55 : decode cX1_countTrades 55 = .ok (.aload_n 0, 1) := by decide +kernel
theorem dX1_countTrades_56 : decode cX1_countTrades 56 = .ok (.dup, 1) := by decide +kernel
theorem dX1_countTrades_57 : decode cX1_countTrades 57 = .ok (.getfield 58, 3) := by decide +kernel
theorem dX1_countTrades_60 : decode cX1_countTrades 60 = .ok (.aload_n 0, 1) := by decide +kernel
theorem dX1_countTrades_61 : decode cX1_countTrades 61 = .ok (.getfield 41, 3) := by decide +kernel
theorem dX1_countTrades_64 : decode cX1_countTrades 64 = .ok (.iconst 1, 1) := by decide +kernel
theorem dX1_countTrades_65 : decode cX1_countTrades 65 = .ok (.iaload, 1) := by decide +kernel
theorem dX1_countTrades_66 : decode cX1_countTrades 66 = .ok (.isub, 1) := by decide +kernel
theorem dX1_countTrades_67 : decode cX1_countTrades 67 = .ok (.putfield 58, 3) := by decide +kernel
theorem dX1_countTrades_70 : decode cX1_countTrades 70 = .ok (.iconst 0, 1) := by decide +kernel
theorem dX1_countTrades_71 : decode cX1_countTrades 71 = .ok (.istore_n 1, 1) := by decide +kernel
theorem dX1_countTrades_72 : decode cX1_countTrades 72 = .ok (.iload_n 1, 1) := by decide +kernel
theorem dX1_countTrades_73 : decode cX1_countTrades 73 = .ok (.iconst 5, 1) := by decide +kernel
theorem dX1_countTrades_74 : decode cX1_countTrades 74 = .ok (.if_icmp .ge 23, 3) := by decide +kernel
theorem dX1_countTrades_77 : decode cX1_countTrades 77 = .ok (.aload_n 0, 1) := by decide +kernel
theorem dX1_countTrades_78 : decode cX1_countTrades 78 = .ok (.getfield 38, 3) := by decide +kernel
theorem dX1_countTrades_81 : decode cX1_countTrades 81 = .ok (.iload_n 1, 1) := by decide +kernel
theorem dX1_countTrades_82 : decode cX1_countTrades 82 = .ok (.aload_n 0, 1) := by decide +kernel
theorem dX1_countTrades_83 : decode cX1_countTrades 83 = .ok (.getfield 47, 3) := by decide +kernel
theorem dX1_countTrades_86 : decode cX1_countTrades 86 = .ok (.iload_n 1, 1) := by decide +kernel
theorem dX1_countTrades_87 : decode cX1_countTrades 87 = .ok (.invokevirtual 193, 3) := by decide +kernel
theorem dX1_countTrades_90 : decode cX1_countTrades 90 = .ok (.iastore, 1) := by decide +kernel
theorem dX1_countTrades_91 : decode cX1_countTrades 91 = .ok (.iinc 1 1, 3) := by decide +kernel
theorem dX1_countTrades_94 : decode cX1_countTrades 94 = .ok (.goto (-22), 3) := by decide +kernel
theorem dX1_countTrades_97 : decode cX1_countTrades 97 = .ok (.return_, 1) := by decide +kernel
theorem dX1_settleTrades_0 : decode cX1_settleTrades 0 = .ok (.iconst 0, 1) := by decide +kernel
theorem dX1_settleTrades_1 : decode cX1_settleTrades 1 = .ok (.istore_n 2, 1) := by decide +kernel
theorem dX1_settleTrades_2 : decode cX1_settleTrades 2 = .ok (.iload_n 2, 1) := by decide +kernel
theorem dX1_settleTrades_3 : decode cX1_settleTrades 3 = .ok (.aload_n 0, 1) := by decide +kernel
theorem dX1_settleTrades_4 : decode cX1_settleTrades 4 = .ok (.getfield 47, 3) := by decide +kernel
theorem dX1_settleTrades_7 : decode cX1_settleTrades 7 = .ok (.getfield 136, 3) := by decide +kernel
theorem dX1_settleTrades_10 : decode cX1_settleTrades 10 = .ok (.if_icmp .ge 121, 3) := by decide +kernel
theorem dX1_settleTrades_13 : decode cX1_settleTrades 13 = .ok (.aload_n 0, 1) := by decide +kernel
theorem dX1_settleTrades_14 : decode cX1_settleTrades 14 = .ok (.getfield 47, 3) := by decide +kernel
theorem dX1_settleTrades_17 : decode cX1_settleTrades 17 = .ok (.getfield 150, 3) := by decide +kernel
theorem dX1_settleTrades_20 : decode cX1_settleTrades 20 = .ok (.iload_n 2, 1) := by decide +kernel
theorem dX1_settleTrades_21 : decode cX1_settleTrades 21 = .ok (.iaload, 1) := by decide +kernel
theorem dX1_settleTrades_22 : decode cX1_settleTrades 22 = .ok (.aload_n 0, 1) := by decide +kernel
theorem dX1_settleTrades_23 : decode cX1_settleTrades 23 = .ok (.getfield 47, 3) := by decide +kernel
theorem dX1_settleTrades_26 : decode cX1_settleTrades 26 = .ok (.getfield 153, 3) := by decide +kernel
theorem dX1_settleTrades_29 : decode cX1_settleTrades 29 = .ok (.iload_n 2, 1) := by decide +kernel
theorem dX1_settleTrades_30 : decode cX1_settleTrades 30 = .ok (.iaload, 1) := by decide +kernel
theorem dX1_settleTrades_31 : decode cX1_settleTrades 31 = .ok (.imul, 1) := by decide +kernel
theorem dX1_settleTrades_32 : decode cX1_settleTrades 32 = .ok (.istore_n 3, 1) := by decide +kernel
theorem dX1_settleTrades_33 : decode cX1_settleTrades 33 = .ok (.aload_n 0, 1) := by decide +kernel
theorem dX1_settleTrades_34 : decode cX1_settleTrades 34 = .ok (.getfield 47, 3) := by decide +kernel
theorem dX1_settleTrades_37 : decode cX1_settleTrades 37 = .ok (.getfield 144, 3) := by decide +kernel
theorem dX1_settleTrades_40 : decode cX1_settleTrades 40 = .ok (.iload_n 2, 1) := by decide +kernel
theorem dX1_settleTrades_41 : decode cX1_settleTrades 41 = .ok (.iaload, 1) := by decide +kernel
theorem dX1_settleTrades_42 : decode cX1_settleTrades 42 = .ok (.iload_n 1, 1) := by decide +kernel
theorem dX1_settleTrades_43 : decode cX1_settleTrades 43 = .ok (.if_icmp .ne 41, 3) := by decide +kernel
theorem dX1_settleTrades_46 : decode cX1_settleTrades 46 = .ok (.aload_n 0, 1) := by decide +kernel
theorem dX1_settleTrades_47 : decode cX1_settleTrades 47 = .ok (.getfield 29, 3) := by decide +kernel
theorem dX1_settleTrades_50 : decode cX1_settleTrades 50 = .ok (.iload_n 1, 1) := by decide +kernel
theorem dX1_settleTrades_51 : decode cX1_settleTrades 51 = .ok (.dup2, 1) := by decide +kernel
theorem dX1_settleTrades_52 : decode cX1_settleTrades 52 = .ok (.iaload, 1) := by decide +kernel
theorem dX1_settleTrades_53 : decode cX1_settleTrades 53 = .ok (.iload_n 3, 1) := by decide +kernel
theorem dX1_settleTrades_54 : decode cX1_settleTrades 54 = .ok (.aload_n 0, 1) := by decide +kernel
theorem dX1_settleTrades_55 : decode cX1_settleTrades 55 = .ok (.getfield 47, 3) := by decide +kernel
theorem dX1_settleTrades_58 : decode cX1_settleTrades 58 = .ok (.getfield 190, 3) := by decide +kernel
theorem dX1_settleTrades_61 : decode cX1_settleTrades 61 = .ok (.iload_n 2, 1) := by decide +kernel
theorem dX1_settleTrades_62 : decode cX1_settleTrades 62 = .ok (.iaload, 1) := by decide +kernel
theorem dX1_settleTrades_63 : decode cX1_settleTrades 63 = .ok (.iadd, 1) := by decide +kernel
theorem dX1_settleTrades_64 : decode cX1_settleTrades 64 = .ok (.isub, 1) := by decide +kernel
theorem dX1_settleTrades_65 : decode cX1_settleTrades 65 = .ok (.iastore, 1) := by decide +kernel
theorem dX1_settleTrades_66 : decode cX1_settleTrades 66 = .ok (.aload_n 0, 1) := by decide +kernel
theorem dX1_settleTrades_67 : decode cX1_settleTrades 67 = .ok (.getfield 32, 3) := by decide +kernel
theorem dX1_settleTrades_70 : decode cX1_settleTrades 70 = .ok (.iload_n 1, 1) := by decide +kernel
theorem dX1_settleTrades_71 : decode cX1_settleTrades 71 = .ok (.dup2, 1) := by decide +kernel
theorem dX1_settleTrades_72 : decode cX1_settleTrades 72 = .ok (.iaload, 1) := by decide +kernel
theorem dX1_settleTrades_73 : decode cX1_settleTrades 73 = .ok (.aload_n 0, 1) := by decide +kernel
theorem dX1_settleTrades_74 : decode cX1_settleTrades 74 = .ok (.getfield 47, 3) := by decide +kernel
theorem dX1_settleTrades_77 : decode cX1_settleTrades 77 = .ok (.getfield 190, 3) := by decide +kernel
theorem dX1_settleTrades_80 : decode cX1_settleTrades 80 = .ok (.iload_n 2, 1) := by decide +kernel
theorem dX1_settleTrades_81 : decode cX1_settleTrades 81 = .ok (.iaload, 1) := by decide +kernel
theorem dX1_settleTrades_82 : decode cX1_settleTrades 82 = .ok (.iadd, 1) := by decide +kernel
theorem dX1_settleTrades_83 : decode cX1_settleTrades 83 = .ok (.iastore, 1) := by decide +kernel
theorem dX1_settleTrades_84 : decode cX1_settleTrades 84 = .ok (.aload_n 0, 1) := by decide +kernel
theorem dX1_settleTrades_85 : decode cX1_settleTrades 85 = .ok (.getfield 47, 3) := by decide +kernel
theorem dX1_settleTrades_88 : decode cX1_settleTrades 88 = .ok (.getfield 147, 3) := by decide +kernel
theorem dX1_settleTrades_91 : decode cX1_settleTrades 91 = .ok (.iload_n 2, 1) := by decide +kernel
theorem dX1_settleTrades_92 : decode cX1_settleTrades 92 = .ok (.iaload, 1) := by decide +kernel
theorem dX1_settleTrades_93 : decode cX1_settleTrades 93 = .ok (.iload_n 1, 1) := by decide +kernel
theorem dX1_settleTrades_94 : decode cX1_settleTrades 94 = .ok (.if_icmp .ne 31, 3) := by decide +kernel
theorem dX1_settleTrades_97 : decode cX1_settleTrades 97 = .ok (.aload_n 0, 1) := by decide +kernel
theorem dX1_settleTrades_98 : decode cX1_settleTrades 98 = .ok (.getfield 29, 3) := by decide +kernel
theorem dX1_settleTrades_101 : decode cX1_settleTrades 101 = .ok (.iload_n 1, 1) := by decide +kernel
theorem dX1_settleTrades_102 : decode cX1_settleTrades 102 = .ok (.dup2, 1) := by decide +kernel
theorem dX1_settleTrades_103 : decode cX1_settleTrades 103 = .ok (.iaload, 1) := by decide +kernel
theorem dX1_settleTrades_104 : decode cX1_settleTrades 104 = .ok (.iload_n 3, 1) := by decide +kernel
theorem dX1_settleTrades_105 : decode cX1_settleTrades 105 = .ok (.iadd, 1) := by decide +kernel
theorem dX1_settleTrades_106 : decode cX1_settleTrades 106 = .ok (.iastore, 1) := by decide +kernel
theorem dX1_settleTrades_107 : decode cX1_settleTrades 107 = .ok (.aload_n 0, 1) := by decide +kernel
theorem dX1_settleTrades_108 : decode cX1_settleTrades 108 = .ok (.getfield 32, 3) := by decide +kernel
theorem dX1_settleTrades_111 : decode cX1_settleTrades 111 = .ok (.iload_n 1, 1) := by decide +kernel
theorem dX1_settleTrades_112 : decode cX1_settleTrades 112 = .ok (.dup2, 1) := by decide +kernel
theorem dX1_settleTrades_113 : decode cX1_settleTrades 113 = .ok (.iaload, 1) := by decide +kernel
theorem dX1_settleTrades_114 : decode cX1_settleTrades 114 = .ok (.aload_n 0, 1) := by decide +kernel
theorem dX1_settleTrades_115 : decode cX1_settleTrades 115 = .ok (.getfield 47, 3) := by decide +kernel
theorem dX1_settleTrades_118 : decode cX1_settleTrades 118 = .ok (.getfield 190, 3) := by decide +kernel
theorem dX1_settleTrades_121 : decode cX1_settleTrades 121 = .ok (.iload_n 2, 1) := by decide +kernel
theorem dX1_settleTrades_122 : decode cX1_settleTrades 122 = .ok (.iaload, 1) := by decide +kernel
theorem dX1_settleTrades_123 : decode cX1_settleTrades 123 = .ok (.isub, 1) := by decide +kernel
theorem dX1_settleTrades_124 : decode cX1_settleTrades 124 = .ok (.iastore, 1) := by decide +kernel
theorem dX1_settleTrades_125 : decode cX1_settleTrades 125 = .ok (.iinc 2 1, 3) := by decide +kernel
theorem dX1_settleTrades_128 : decode cX1_settleTrades 128 = .ok (.goto (-126), 3) := by decide +kernel
theorem dX1_settleTrades_131 : decode cX1_settleTrades 131 = .ok (.return_, 1) := by decide +kernel
set_option maxRecDepth 20000 in
theorem ggX1_useBattery_X1_putIn : GoodIn wsX1_useBattery wsX1_putIn := goodIn_r _ [12, 1, 3, 13, 27, 28, 29, 30, 31, 32, 33, 34, 35, 36, 37, 38, 39, 40, 41, 42, 43] (by decide +kernel) (by decide +kernel)
set_option maxRecDepth 20000 in
theorem gX1_useBattery_X1_putIn : GoodIn wsX1_useBattery (wsV RX1 196 RX1 yX1_putIn wsX1_putIn) := goodIn_app (goodIn_of _ (by decide +kernel)) ggX1_useBattery_X1_putIn
set_option maxRecDepth 20000 in
theorem ggX1_useBattery_X1_takeOut : GoodIn wsX1_useBattery wsX1_takeOut := goodIn_r _ [17, 1, 3, 13, 2, 18, 19, 6, 20, 21, 22, 23, 11, 24, 25, 26, 27, 28, 29, 30, 31, 32, 33, 34, 35, 36, 37, 38, 39, 40, 41, 42, 43] (by decide +kernel) (by decide +kernel)
set_option maxRecDepth 20000 in
theorem gX1_useBattery_X1_takeOut : GoodIn wsX1_useBattery (wsV RX1 199 RX1 yX1_takeOut wsX1_takeOut) := goodIn_app (goodIn_of _ (by decide +kernel)) ggX1_useBattery_X1_takeOut
theorem dX1_useBattery_0 : decode cX1_useBattery 0 = .ok (.aload_n 0, 1) := by decide +kernel
theorem dX1_useBattery_1 : decode cX1_useBattery 1 = .ok (.getfield 32, 3) := by decide +kernel
theorem dX1_useBattery_4 : decode cX1_useBattery 4 = .ok (.iload_n 1, 1) := by decide +kernel
theorem dX1_useBattery_5 : decode cX1_useBattery 5 = .ok (.iaload, 1) := by decide +kernel
theorem dX1_useBattery_6 : decode cX1_useBattery 6 = .ok (.ifCond .le 33, 3) := by decide +kernel
theorem dX1_useBattery_9 : decode cX1_useBattery 9 = .ok (.aload_n 0, 1) := by decide +kernel
theorem dX1_useBattery_10 : decode cX1_useBattery 10 = .ok (.iload_n 1, 1) := by decide +kernel
theorem dX1_useBattery_11 : decode cX1_useBattery 11 = .ok (.aload_n 0, 1) := by decide +kernel
theorem dX1_useBattery_12 : decode cX1_useBattery 12 = .ok (.getfield 32, 3) := by decide +kernel
theorem dX1_useBattery_15 : decode cX1_useBattery 15 = .ok (.iload_n 1, 1) := by decide +kernel
theorem dX1_useBattery_16 : decode cX1_useBattery 16 = .ok (.iaload, 1) := by decide +kernel
theorem dX1_useBattery_17 : decode cX1_useBattery 17 = .ok (.aload_n 0, 1) := by decide +kernel
theorem dX1_useBattery_18 : decode cX1_useBattery 18 = .ok (.getfield 23, 3) := by decide +kernel
theorem dX1_useBattery_21 : decode cX1_useBattery 21 = .ok (.iload_n 1, 1) := by decide +kernel
theorem dX1_useBattery_22 : decode cX1_useBattery 22 = .ok (.iaload, 1) := by decide +kernel
theorem dX1_useBattery_23 : decode cX1_useBattery 23 = .ok (.aload_n 0, 1) := by decide +kernel
theorem dX1_useBattery_24 : decode cX1_useBattery 24 = .ok (.getfield 26, 3) := by decide +kernel
theorem dX1_useBattery_27 : decode cX1_useBattery 27 = .ok (.iload_n 1, 1) := by decide +kernel
theorem dX1_useBattery_28 : decode cX1_useBattery 28 = .ok (.iaload, 1) := by decide +kernel
theorem dX1_useBattery_29 : decode cX1_useBattery 29 = .ok (.isub, 1) := by decide +kernel
theorem dX1_useBattery_30 : decode cX1_useBattery 30 = .ok (.invokestatic 132, 3) := by decide +kernel
theorem dX1_useBattery_33 : decode cX1_useBattery 33 = .ok (.invokevirtual 196, 3) := by decide +kernel
theorem dX1_useBattery_36 : decode cX1_useBattery 36 = .ok (.goto 24, 3) := by decide +kernel
theorem dX1_useBattery_39 : decode cX1_useBattery 39 = .ok (.aload_n 0, 1) := by decide +kernel
theorem dX1_useBattery_40 : decode cX1_useBattery 40 = .ok (.iload_n 1, 1) := by decide +kernel
theorem dX1_useBattery_41 : decode cX1_useBattery 41 = .ok (.aload_n 0, 1) := by decide +kernel
theorem dX1_useBattery_42 : decode cX1_useBattery 42 = .ok (.getfield 32, 3) := by decide +kernel
theorem dX1_useBattery_45 : decode cX1_useBattery 45 = .ok (.iload_n 1, 1) := by decide +kernel
theorem dX1_useBattery_46 : decode cX1_useBattery 46 = .ok (.iaload, 1) := by decide +kernel
theorem dX1_useBattery_47 : decode cX1_useBattery 47 = .ok (.ineg, 1) := by decide +kernel
theorem dX1_useBattery_48 : decode cX1_useBattery 48 = .ok (.aload_n 0, 1) := by decide +kernel
theorem dX1_useBattery_49 : decode cX1_useBattery 49 = .ok (.getfield 26, 3) := by decide +kernel
theorem dX1_useBattery_52 : decode cX1_useBattery 52 = .ok (.iload_n 1, 1) := by decide +kernel
theorem dX1_useBattery_53 : decode cX1_useBattery 53 = .ok (.iaload, 1) := by decide +kernel
theorem dX1_useBattery_54 : decode cX1_useBattery 54 = .ok (.invokestatic 132, 3) := by decide +kernel
theorem dX1_useBattery_57 : decode cX1_useBattery 57 = .ok (.invokevirtual 199, 3) := by decide +kernel
theorem dX1_useBattery_60 : decode cX1_useBattery 60 = .ok (.return_, 1) := by decide +kernel
theorem dX1_putIn_0 : decode cX1_putIn 0 = .ok (.aload_n 0, 1) := by decide +kernel
theorem dX1_putIn_1 : decode cX1_putIn 1 = .ok (.getfield 32, 3) := by decide +kernel
theorem dX1_putIn_4 : decode cX1_putIn 4 = .ok (.iload_n 1, 1) := by decide +kernel
theorem dX1_putIn_5 : decode cX1_putIn 5 = .ok (.dup2, 1) := by decide +kernel
theorem dX1_putIn_6 : decode cX1_putIn 6 = .ok (.iaload, 1) := by decide +kernel
theorem dX1_putIn_7 : decode cX1_putIn 7 = .ok (.iload_n 2, 1) := by decide +kernel
theorem dX1_putIn_8 : decode cX1_putIn 8 = .ok (.isub, 1) := by decide +kernel
theorem dX1_putIn_9 : decode cX1_putIn 9 = .ok (.iastore, 1) := by decide +kernel
theorem dX1_putIn_10 : decode cX1_putIn 10 = .ok (.aload_n 0, 1) := by decide +kernel
theorem dX1_putIn_11 : decode cX1_putIn 11 = .ok (.getfield 26, 3) := by decide +kernel
theorem dX1_putIn_14 : decode cX1_putIn 14 = .ok (.iload_n 1, 1) := by decide +kernel
theorem dX1_putIn_15 : decode cX1_putIn 15 = .ok (.dup2, 1) := by decide +kernel
theorem dX1_putIn_16 : decode cX1_putIn 16 = .ok (.iaload, 1) := by decide +kernel
theorem dX1_putIn_17 : decode cX1_putIn 17 = .ok (.iload_n 2, 1) := by decide +kernel
theorem dX1_putIn_18 : decode cX1_putIn 18 = .ok (.iadd, 1) := by decide +kernel
theorem dX1_putIn_19 : decode cX1_putIn 19 = .ok (.iastore, 1) := by decide +kernel
theorem dX1_putIn_20 : decode cX1_putIn 20 = .ok (.aload_n 0, 1) := by decide +kernel
theorem dX1_putIn_21 : decode cX1_putIn 21 = .ok (.getfield 41, 3) := by decide +kernel
theorem dX1_putIn_24 : decode cX1_putIn 24 = .ok (.iconst 2, 1) := by decide +kernel
theorem dX1_putIn_25 : decode cX1_putIn 25 = .ok (.dup2, 1) := by decide +kernel
theorem dX1_putIn_26 : decode cX1_putIn 26 = .ok (.iaload, 1) := by decide +kernel
theorem dX1_putIn_27 : decode cX1_putIn 27 = .ok (.iload_n 2, 1) := by decide +kernel
theorem dX1_putIn_28 : decode cX1_putIn 28 = .ok (.iadd, 1) := by decide +kernel
theorem dX1_putIn_29 : decode cX1_putIn 29 = .ok (.iastore, 1) := by decide +kernel
theorem dX1_putIn_30 : decode cX1_putIn 30 = .ok (.return_, 1) := by decide +kernel
set_option maxRecDepth 20000 in
theorem ggX1_takeOut_X1_payPool : GoodIn wsX1_takeOut wsX1_payPool := goodIn_r _ [13, 14, 15, 16, 17, 18, 19, 20, 21, 22, 23, 24, 25, 26, 27, 28, 29, 30, 31, 32] (by decide +kernel) (by decide +kernel)
set_option maxRecDepth 20000 in
theorem gX1_takeOut_X1_payPool : GoodIn wsX1_takeOut (wsV RX1 93 RX1 yX1_payPool wsX1_payPool) := goodIn_app (goodIn_of _ (by decide +kernel)) ggX1_takeOut_X1_payPool
theorem dX1_takeOut_0 : decode cX1_takeOut 0 = .ok (.iload_n 2, 1) := by decide +kernel
theorem dX1_takeOut_1 : decode cX1_takeOut 1 = .ok (.ifCond .gt 4, 3) := by decide +kernel
theorem dX1_takeOut_4 : decode cX1_takeOut 4 = .ok (.return_, 1) := by decide +kernel
theorem dX1_takeOut_5 : decode cX1_takeOut 5 = .ok (.aload_n 0, 1) := by decide +kernel
theorem dX1_takeOut_6 : decode cX1_takeOut 6 = .ok (.getfield 32, 3) := by decide +kernel
theorem dX1_takeOut_9 : decode cX1_takeOut 9 = .ok (.iload_n 1, 1) := by decide +kernel
theorem dX1_takeOut_10 : decode cX1_takeOut 10 = .ok (.dup2, 1) := by decide +kernel
theorem dX1_takeOut_11 : decode cX1_takeOut 11 = .ok (.iaload, 1) := by decide +kernel
theorem dX1_takeOut_12 : decode cX1_takeOut 12 = .ok (.iload_n 2, 1) := by decide +kernel
theorem dX1_takeOut_13 : decode cX1_takeOut 13 = .ok (.iadd, 1) := by decide +kernel
theorem dX1_takeOut_14 : decode cX1_takeOut 14 = .ok (.iastore, 1) := by decide +kernel
theorem dX1_takeOut_15 : decode cX1_takeOut 15 = .ok (.aload_n 0, 1) := by decide +kernel
theorem dX1_takeOut_16 : decode cX1_takeOut 16 = .ok (.getfield 26, 3) := by decide +kernel
theorem dX1_takeOut_19 : decode cX1_takeOut 19 = .ok (.iload_n 1, 1) := by decide +kernel
theorem dX1_takeOut_20 : decode cX1_takeOut 20 = .ok (.dup2, 1) := by decide +kernel
theorem dX1_takeOut_21 : decode cX1_takeOut 21 = .ok (.iaload, 1) := by decide +kernel
theorem dX1_takeOut_22 : decode cX1_takeOut 22 = .ok (.iload_n 2, 1) := by decide +kernel
theorem dX1_takeOut_23 : decode cX1_takeOut 23 = .ok (.isub, 1) := by decide +kernel
theorem dX1_takeOut_24 : decode cX1_takeOut 24 = .ok (.iastore, 1) := by decide +kernel
theorem dX1_takeOut_25 : decode cX1_takeOut 25 = .ok (.aload_n 0, 1) := by decide +kernel
theorem dX1_takeOut_26 : decode cX1_takeOut 26 = .ok (.getfield 41, 3) := by decide +kernel
theorem dX1_takeOut_29 : decode cX1_takeOut 29 = .ok (.iconst 3, 1) := by decide +kernel
theorem dX1_takeOut_30 : decode cX1_takeOut 30 = .ok (.dup2, 1) := by decide +kernel
theorem dX1_takeOut_31 : decode cX1_takeOut 31 = .ok (.iaload, 1) := by decide +kernel
theorem dX1_takeOut_32 : decode cX1_takeOut 32 = .ok (.iload_n 2, 1) := by decide +kernel
theorem dX1_takeOut_33 : decode cX1_takeOut 33 = .ok (.iadd, 1) := by decide +kernel
theorem dX1_takeOut_34 : decode cX1_takeOut 34 = .ok (.iastore, 1) := by decide +kernel
theorem dX1_takeOut_35 : decode cX1_takeOut 35 = .ok (.iconst 0, 1) := by decide +kernel
theorem dX1_takeOut_36 : decode cX1_takeOut 36 = .ok (.aload_n 0, 1) := by decide +kernel
theorem dX1_takeOut_37 : decode cX1_takeOut 37 = .ok (.getfield 23, 3) := by decide +kernel
theorem dX1_takeOut_40 : decode cX1_takeOut 40 = .ok (.iload_n 1, 1) := by decide +kernel
theorem dX1_takeOut_41 : decode cX1_takeOut 41 = .ok (.iaload, 1) := by decide +kernel
theorem dX1_takeOut_42 : decode cX1_takeOut 42 = .ok (.iconst 4, 1) := by decide +kernel
theorem dX1_takeOut_43 : decode cX1_takeOut 43 = .ok (.idiv, 1) := by decide +kernel
theorem dX1_takeOut_44 : decode cX1_takeOut 44 = .ok (.aload_n 0, 1) := by decide +kernel
theorem dX1_takeOut_45 : decode cX1_takeOut 45 = .ok (.getfield 26, 3) := by decide +kernel
theorem dX1_takeOut_48 : decode cX1_takeOut 48 = .ok (.iload_n 1, 1) := by decide +kernel
theorem dX1_takeOut_49 : decode cX1_takeOut 49 = .ok (.iaload, 1) := by decide +kernel
theorem dX1_takeOut_50 : decode cX1_takeOut 50 = .ok (.isub, 1) := by decide +kernel
theorem dX1_takeOut_51 : decode cX1_takeOut 51 = .ok (.invokestatic 202, 3) := by decide +kernel
theorem dX1_takeOut_54 : decode cX1_takeOut 54 = .ok (.istore_n 3, 1) := by decide +kernel
theorem dX1_takeOut_55 : decode cX1_takeOut 55 = .ok (.aload_n 0, 1) := by decide +kernel
theorem dX1_takeOut_56 : decode cX1_takeOut 56 = .ok (.iload_n 1, 1) := by decide +kernel
theorem dX1_takeOut_57 : decode cX1_takeOut 57 = .ok (.iconst 2, 1) := by decide +kernel
theorem dX1_takeOut_58 : decode cX1_takeOut 58 = .ok (.iload_n 2, 1) := by decide +kernel
theorem dX1_takeOut_59 : decode cX1_takeOut 59 = .ok (.imul, 1) := by decide +kernel
theorem dX1_takeOut_60 : decode cX1_takeOut 60 = .ok (.iload_n 3, 1) := by decide +kernel
theorem dX1_takeOut_61 : decode cX1_takeOut 61 = .ok (.iadd, 1) := by decide +kernel
theorem dX1_takeOut_62 : decode cX1_takeOut 62 = .ok (.invokevirtual 93, 3) := by decide +kernel
theorem dX1_takeOut_65 : decode cX1_takeOut 65 = .ok (.return_, 1) := by decide +kernel
theorem dX1_settleWithSupplier_0 : decode cX1_settleWithSupplier 0 = .ok (.aload_n 0, 1) := by decide +kernel
theorem dX1_settleWithSupplier_1 : decode cX1_settleWithSupplier 1 = .ok (.getfield 32, 3) := by decide +kernel
theorem dX1_settleWithSupplier_4 : decode cX1_settleWithSupplier 4 = .ok (.iload_n 1, 1) := by decide +kernel
theorem dX1_settleWithSupplier_5 : decode cX1_settleWithSupplier 5 = .ok (.iaload, 1) := by decide +kernel
theorem dX1_settleWithSupplier_6 : decode cX1_settleWithSupplier 6 = .ok (.istore_n 2, 1) := by decide +kernel
theorem dX1_settleWithSupplier_7 : decode cX1_settleWithSupplier 7 = .ok (.iload_n 2, 1) := by decide +kernel
theorem dX1_settleWithSupplier_8 : decode cX1_settleWithSupplier 8 = .ok (.ifCond .ge 13, 3) := by decide +kernel
theorem dX1_settleWithSupplier_11 : decode cX1_settleWithSupplier 11 = .ok (.iload_n 2, 1) := by decide +kernel
theorem dX1_settleWithSupplier_12 : decode cX1_settleWithSupplier 12 = .ok (.ineg, 1) := by decide +kernel
theorem dX1_settleWithSupplier_13 : decode cX1_settleWithSupplier 13 = .ok (.aload_n 0, 1) := by decide +kernel
theorem dX1_settleWithSupplier_14 : decode cX1_settleWithSupplier 14 = .ok (.getfield 51, 3) := by decide +kernel
theorem dX1_settleWithSupplier_17 : decode cX1_settleWithSupplier 17 = .ok (.imul, 1) := by decide +kernel
theorem dX1_settleWithSupplier_18 : decode cX1_settleWithSupplier 18 = .ok (.goto 10, 3) := by decide +kernel
theorem dX1_settleWithSupplier_21 : decode cX1_settleWithSupplier 21 = .ok (.iload_n 2, 1) := by decide +kernel
theorem dX1_settleWithSupplier_22 : decode cX1_settleWithSupplier 22 = .ok (.ineg, 1) := by decide +kernel
theorem dX1_settleWithSupplier_23 : decode cX1_settleWithSupplier 23 = .ok (.aload_n 0, 1) := by decide +kernel
theorem dX1_settleWithSupplier_24 : decode cX1_settleWithSupplier 24 = .ok (.getfield 55, 3) := by decide +kernel
theorem dX1_settleWithSupplier_27 : decode cX1_settleWithSupplier 27 = .ok (.imul, 1) := by decide +kernel
theorem dX1_settleWithSupplier_28 : decode cX1_settleWithSupplier 28 = .ok (.istore_n 3, 1) := by decide +kernel
theorem dX1_settleWithSupplier_29 : decode cX1_settleWithSupplier 29 = .ok (.aload_n 0, 1) := by decide +kernel
theorem dX1_settleWithSupplier_30 : decode cX1_settleWithSupplier 30 = .ok (.getfield 29, 3) := by decide +kernel
theorem dX1_settleWithSupplier_33 : decode cX1_settleWithSupplier 33 = .ok (.iload_n 1, 1) := by decide +kernel
theorem dX1_settleWithSupplier_34 : decode cX1_settleWithSupplier 34 = .ok (.dup2, 1) := by decide +kernel
theorem dX1_settleWithSupplier_35 : decode cX1_settleWithSupplier 35 = .ok (.iaload, 1) := by decide +kernel
theorem dX1_settleWithSupplier_36 : decode cX1_settleWithSupplier 36 = .ok (.iload_n 3, 1) := by decide +kernel
theorem dX1_settleWithSupplier_37 : decode cX1_settleWithSupplier 37 = .ok (.iadd, 1) := by decide +kernel
theorem dX1_settleWithSupplier_38 : decode cX1_settleWithSupplier 38 = .ok (.iastore, 1) := by decide +kernel
theorem dX1_settleWithSupplier_39 : decode cX1_settleWithSupplier 39 = .ok (.aload_n 0, 1) := by decide +kernel
theorem dX1_settleWithSupplier_40 : decode cX1_settleWithSupplier 40 = .ok (.dup, 1) := by decide +kernel
theorem dX1_settleWithSupplier_41 : decode cX1_settleWithSupplier 41 = .ok (.getfield 61, 3) := by decide +kernel
theorem dX1_settleWithSupplier_44 : decode cX1_settleWithSupplier 44 = .ok (.iload_n 3, 1) := by decide +kernel
theorem dX1_settleWithSupplier_45 : decode cX1_settleWithSupplier 45 = .ok (.iadd, 1) := by decide +kernel
theorem dX1_settleWithSupplier_46 : decode cX1_settleWithSupplier 46 = .ok (.putfield 61, 3) := by decide +kernel
theorem dX1_settleWithSupplier_49 : decode cX1_settleWithSupplier 49 = .ok (.iload_n 2, 1) := by decide +kernel
theorem dX1_settleWithSupplier_50 : decode cX1_settleWithSupplier 50 = .ok (.ifCond .ge 16, 3) := by decide +kernel
theorem dX1_settleWithSupplier_53 : decode cX1_settleWithSupplier 53 = .ok (.aload_n 0, 1) := by decide +kernel
theorem dX1_settleWithSupplier_54 : decode cX1_settleWithSupplier 54 = .ok (.getfield 41, 3) := by decide +kernel
theorem dX1_settleWithSupplier_57 : decode cX1_settleWithSupplier 57 = .ok (.iconst 4, 1) := by decide +kernel
theorem dX1_settleWithSupplier_58 : decode cX1_settleWithSupplier 58 = .ok (.dup2, 1) := by decide +kernel
theorem dX1_settleWithSupplier_59 : decode cX1_settleWithSupplier 59 = .ok (.iaload, 1) := by decide +kernel
theorem dX1_settleWithSupplier_60 : decode cX1_settleWithSupplier 60 = .ok (.iload_n 2, 1) := by decide +kernel
theorem dX1_settleWithSupplier_61 : decode cX1_settleWithSupplier 61 = .ok (.isub, 1) := by decide +kernel
theorem dX1_settleWithSupplier_62 : decode cX1_settleWithSupplier 62 = .ok (.iastore, 1) := by decide +kernel
theorem dX1_settleWithSupplier_63 : decode cX1_settleWithSupplier 63 = .ok (.goto 13, 3) := by decide +kernel
theorem dX1_settleWithSupplier_66 : decode cX1_settleWithSupplier 66 = .ok (.aload_n 0, 1) := by decide +kernel
theorem dX1_settleWithSupplier_67 : decode cX1_settleWithSupplier 67 = .ok (.getfield 41, 3) := by decide +kernel
theorem dX1_settleWithSupplier_70 : decode cX1_settleWithSupplier 70 = .ok (.iconst 5, 1) := by decide +kernel
theorem dX1_settleWithSupplier_71 : decode cX1_settleWithSupplier 71 = .ok (.dup2, 1) := by decide +kernel
theorem dX1_settleWithSupplier_72 : decode cX1_settleWithSupplier 72 = .ok (.iaload, 1) := by decide +kernel
theorem dX1_settleWithSupplier_73 : decode cX1_settleWithSupplier 73 = .ok (.iload_n 2, 1) := by decide +kernel
theorem dX1_settleWithSupplier_74 : decode cX1_settleWithSupplier 74 = .ok (.iadd, 1) := by decide +kernel
theorem dX1_settleWithSupplier_75 : decode cX1_settleWithSupplier 75 = .ok (.iastore, 1) := by decide +kernel
theorem dX1_settleWithSupplier_76 : decode cX1_settleWithSupplier 76 = .ok (.return_, 1) := by decide +kernel
theorem dX1_payPool_0 : decode cX1_payPool 0 = .ok (.aload_n 0, 1) := by decide +kernel
theorem dX1_payPool_1 : decode cX1_payPool 1 = .ok (.getfield 29, 3) := by decide +kernel
theorem dX1_payPool_4 : decode cX1_payPool 4 = .ok (.iload_n 1, 1) := by decide +kernel
theorem dX1_payPool_5 : decode cX1_payPool 5 = .ok (.dup2, 1) := by decide +kernel
theorem dX1_payPool_6 : decode cX1_payPool 6 = .ok (.iaload, 1) := by decide +kernel
theorem dX1_payPool_7 : decode cX1_payPool 7 = .ok (.iload_n 2, 1) := by decide +kernel
theorem dX1_payPool_8 : decode cX1_payPool 8 = .ok (.iadd, 1) := by decide +kernel
theorem dX1_payPool_9 : decode cX1_payPool 9 = .ok (.iastore, 1) := by decide +kernel
theorem dX1_payPool_10 : decode cX1_payPool 10 = .ok (.aload_n 0, 1) := by decide +kernel
theorem dX1_payPool_11 : decode cX1_payPool 11 = .ok (.dup, 1) := by decide +kernel
theorem dX1_payPool_12 : decode cX1_payPool 12 = .ok (.getfield 58, 3) := by decide +kernel
theorem dX1_payPool_15 : decode cX1_payPool 15 = .ok (.iload_n 2, 1) := by decide +kernel
theorem dX1_payPool_16 : decode cX1_payPool 16 = .ok (.iadd, 1) := by decide +kernel
theorem dX1_payPool_17 : decode cX1_payPool 17 = .ok (.putfield 58, 3) := by decide +kernel
theorem dX1_payPool_20 : decode cX1_payPool 20 = .ok (.return_, 1) := by decide +kernel
set_option maxRecDepth 20000 in
theorem ggX1_boundBySet_X1_isInSet : GoodIn wsX1_boundBySet wsX1_isInSet := goodIn_r _ [5] (by decide +kernel) (by decide +kernel)
set_option maxRecDepth 20000 in
theorem gX1_boundBySet_X1_isInSet : GoodIn wsX1_boundBySet (va_wsS RX1 205 yX1_isInSet wsX1_isInSet) := goodIn_app (goodIn_of _ (by decide +kernel)) ggX1_boundBySet_X1_isInSet
set_option maxRecDepth 20000 in
theorem ggX1_boundBySet_X1_sellsToSet : GoodIn wsX1_boundBySet wsX1_sellsToSet := goodIn_r _ [9, 1, 10, 2, 3, 4, 5, 11, 12, 13, 14, 15, 16, 17, 18, 19, 20, 21, 22, 23, 24, 25, 26, 27] (by decide +kernel) (by decide +kernel)
set_option maxRecDepth 20000 in
theorem gX1_boundBySet_X1_sellsToSet : GoodIn wsX1_boundBySet (wsV RX1 208 RX1 yX1_sellsToSet wsX1_sellsToSet) := goodIn_app (goodIn_of _ (by decide +kernel)) ggX1_boundBySet_X1_sellsToSet
theorem dX1_boundBySet_0 : decode cX1_boundBySet 0 = .ok (.iconst 0, 1) := by decide +kernel
theorem dX1_boundBySet_1 : decode cX1_boundBySet 1 = .ok (.istore_n 2, 1) := by decide +kernel
theorem dX1_boundBySet_2 : decode cX1_boundBySet 2 = .ok (.iconst 0, 1) := by decide +kernel
theorem dX1_boundBySet_3 : decode cX1_boundBySet 3 = .ok (.istore_n 3, 1) := by decide +kernel
theorem dX1_boundBySet_4 : decode cX1_boundBySet 4 = .ok (.iload_n 3, 1) := by decide +kernel
theorem dX1_boundBySet_5 : decode cX1_boundBySet 5 = .ok (.bipush 6, 2) := by decide +kernel
theorem dX1_boundBySet_7 : decode cX1_boundBySet 7 = .ok (.if_icmp .ge 62, 3) := by decide +kernel
theorem dX1_boundBySet_10 : decode cX1_boundBySet 10 = .ok (.aload_n 0, 1) := by decide +kernel
theorem dX1_boundBySet_11 : decode cX1_boundBySet 11 = .ok (.getfield 17, 3) := by decide +kernel
theorem dX1_boundBySet_14 : decode cX1_boundBySet 14 = .ok (.iload_n 3, 1) := by decide +kernel
theorem dX1_boundBySet_15 : decode cX1_boundBySet 15 = .ok (.iaload, 1) := by decide +kernel
theorem dX1_boundBySet_16 : decode cX1_boundBySet 16 = .ok (.ifCond .ge 20, 3) := by decide +kernel
theorem dX1_boundBySet_19 : decode cX1_boundBySet 19 = .ok (.iload_n 3, 1) := by decide +kernel
theorem dX1_boundBySet_20 : decode cX1_boundBySet 20 = .ok (.iload_n 1, 1) := by decide +kernel
theorem dX1_boundBySet_21 : decode cX1_boundBySet 21 = .ok (.invokestatic 205, 3) := by decide +kernel
theorem dX1_boundBySet_24 : decode cX1_boundBySet 24 = .ok (.ifCond .ne 12, 3) := by decide +kernel
theorem dX1_boundBySet_27 : decode cX1_boundBySet 27 = .ok (.iload_n 2, 1) := by decide +kernel
theorem dX1_boundBySet_28 : decode cX1_boundBySet 28 = .ok (.aload_n 0, 1) := by decide +kernel
theorem dX1_boundBySet_29 : decode cX1_boundBySet 29 = .ok (.getfield 17, 3) := by decide +kernel
theorem dX1_boundBySet_32 : decode cX1_boundBySet 32 = .ok (.iload_n 3, 1) := by decide +kernel
theorem dX1_boundBySet_33 : decode cX1_boundBySet 33 = .ok (.iaload, 1) := by decide +kernel
theorem dX1_boundBySet_34 : decode cX1_boundBySet 34 = .ok (.isub, 1) := by decide +kernel
theorem dX1_boundBySet_35 : decode cX1_boundBySet 35 = .ok (.istore_n 2, 1) := by decide +kernel
theorem dX1_boundBySet_36 : decode cX1_boundBySet 36 = .ok (.aload_n 0, 1) := by decide +kernel
theorem dX1_boundBySet_37 : decode cX1_boundBySet 37 = .ok (.getfield 17, 3) := by decide +kernel
theorem dX1_boundBySet_40 : decode cX1_boundBySet 40 = .ok (.iload_n 3, 1) := by decide +kernel
theorem dX1_boundBySet_41 : decode cX1_boundBySet 41 = .ok (.iaload, 1) := by decide +kernel
theorem dX1_boundBySet_42 : decode cX1_boundBySet 42 = .ok (.ifCond .le 21, 3) := by decide +kernel
theorem dX1_boundBySet_45 : decode cX1_boundBySet 45 = .ok (.aload_n 0, 1) := by decide +kernel
theorem dX1_boundBySet_46 : decode cX1_boundBySet 46 = .ok (.iload_n 3, 1) := by decide +kernel
theorem dX1_boundBySet_47 : decode cX1_boundBySet 47 = .ok (.iload_n 1, 1) := by decide +kernel
theorem dX1_boundBySet_48 : decode cX1_boundBySet 48 = .ok (.invokevirtual 208, 3) := by decide +kernel
theorem dX1_boundBySet_51 : decode cX1_boundBySet 51 = .ok (.ifCond .eq 12, 3) := by decide +kernel
theorem dX1_boundBySet_54 : decode cX1_boundBySet 54 = .ok (.iload_n 2, 1) := by decide +kernel
theorem dX1_boundBySet_55 : decode cX1_boundBySet 55 = .ok (.aload_n 0, 1) := by decide +kernel
theorem dX1_boundBySet_56 : decode cX1_boundBySet 56 = .ok (.getfield 17, 3) := by decide +kernel
theorem dX1_boundBySet_59 : decode cX1_boundBySet 59 = .ok (.iload_n 3, 1) := by decide +kernel
theorem dX1_boundBySet_60 : decode cX1_boundBySet 60 = .ok (.iaload, 1) := by decide +kernel
theorem dX1_boundBySet_61 : decode cX1_boundBySet 61 = .ok (.iadd, 1) := by decide +kernel
theorem dX1_boundBySet_62 : decode cX1_boundBySet 62 = .ok (.istore_n 2, 1) := by decide +kernel
theorem dX1_boundBySet_63 : decode cX1_boundBySet 63 = .ok (.iinc 3 1, 3) := by decide +kernel
theorem dX1_boundBySet_66 : decode cX1_boundBySet 66 = .ok (.goto (-62), 3) := by decide +kernel
theorem dX1_boundBySet_69 : decode cX1_boundBySet 69 = .ok (.iload_n 2, 1) := by decide +kernel
theorem dX1_boundBySet_70 : decode cX1_boundBySet 70 = .ok (.ireturn, 1) := by decide +kernel
set_option maxRecDepth 20000 in
theorem ggX1_sellsToSet_X1_isInSet : GoodIn wsX1_sellsToSet wsX1_isInSet := goodIn_r _ [6] (by decide +kernel) (by decide +kernel)
set_option maxRecDepth 20000 in
theorem gX1_sellsToSet_X1_isInSet : GoodIn wsX1_sellsToSet (va_wsS RX1 205 yX1_isInSet wsX1_isInSet) := goodIn_app (goodIn_of _ (by decide +kernel)) ggX1_sellsToSet_X1_isInSet
theorem dX1_sellsToSet_0 : decode cX1_sellsToSet 0 = .ok (.iconst 0, 1) := by decide +kernel
theorem dX1_sellsToSet_1 : decode cX1_sellsToSet 1 = .ok (.istore_n 3, 1) := by decide +kernel
theorem dX1_sellsToSet_2 : decode cX1_sellsToSet 2 = .ok (.iload_n 3, 1) := by decide +kernel
theorem dX1_sellsToSet_3 : decode cX1_sellsToSet 3 = .ok (.bipush 6, 2) := by decide +kernel
theorem dX1_sellsToSet_5 : decode cX1_sellsToSet 5 = .ok (.if_icmp .ge 43, 3) := by decide +kernel
theorem dX1_sellsToSet_8 : decode cX1_sellsToSet 8 = .ok (.aload_n 0, 1) := by decide +kernel
theorem dX1_sellsToSet_9 : decode cX1_sellsToSet 9 = .ok (.getfield 17, 3) := by decide +kernel
theorem dX1_sellsToSet_12 : decode cX1_sellsToSet 12 = .ok (.iload_n 3, 1) := by decide +kernel
theorem dX1_sellsToSet_13 : decode cX1_sellsToSet 13 = .ok (.iaload, 1) := by decide +kernel
theorem dX1_sellsToSet_14 : decode cX1_sellsToSet 14 = .ok (.ifCond .ge 28, 3) := by decide +kernel
theorem dX1_sellsToSet_17 : decode cX1_sellsToSet 17 = .ok (.iload_n 3, 1) := by decide +kernel
theorem dX1_sellsToSet_18 : decode cX1_sellsToSet 18 = .ok (.iload_n 2, 1) := by decide +kernel
theorem dX1_sellsToSet_19 : decode cX1_sellsToSet 19 = .ok (.invokestatic 205, 3) := by decide +kernel
theorem dX1_sellsToSet_22 : decode cX1_sellsToSet 22 = .ok (.ifCond .eq 20, 3) := by decide +kernel
theorem dX1_sellsToSet_25 : decode cX1_sellsToSet 25 = .ok (.aload_n 0, 1) := by decide +kernel
theorem dX1_sellsToSet_26 : decode cX1_sellsToSet 26 = .ok (.getfield 20, 3) := by decide +kernel
theorem dX1_sellsToSet_29 : decode cX1_sellsToSet 29 = .ok (.iload_n 1, 1) := by decide +kernel
theorem dX1_sellsToSet_30 : decode cX1_sellsToSet 30 = .ok (.iaload, 1) := by decide +kernel
theorem dX1_sellsToSet_31 : decode cX1_sellsToSet 31 = .ok (.aload_n 0, 1) := by decide +kernel
theorem dX1_sellsToSet_32 : decode cX1_sellsToSet 32 = .ok (.getfield 20, 3) := by decide +kernel
theorem dX1_sellsToSet_35 : decode cX1_sellsToSet 35 = .ok (.iload_n 3, 1) := by decide +kernel
theorem dX1_sellsToSet_36 : decode cX1_sellsToSet 36 = .ok (.iaload, 1) := by decide +kernel
theorem dX1_sellsToSet_37 : decode cX1_sellsToSet 37 = .ok (.if_icmp .gt 5, 3) := by decide +kernel
theorem dX1_sellsToSet_40 : decode cX1_sellsToSet 40 = .ok (.iconst 1, 1) := by decide +kernel
theorem dX1_sellsToSet_41 : decode cX1_sellsToSet 41 = .ok (.ireturn, 1) := by decide +kernel
theorem dX1_sellsToSet_42 : decode cX1_sellsToSet 42 = .ok (.iinc 3 1, 3) := by decide +kernel
theorem dX1_sellsToSet_45 : decode cX1_sellsToSet 45 = .ok (.goto (-43), 3) := by decide +kernel
theorem dX1_sellsToSet_48 : decode cX1_sellsToSet 48 = .ok (.iconst 0, 1) := by decide +kernel
theorem dX1_sellsToSet_49 : decode cX1_sellsToSet 49 = .ok (.ireturn, 1) := by decide +kernel
theorem dX1_isInSet_0 : decode cX1_isInSet 0 = .ok (.iload_n 1, 1) := by decide +kernel
theorem dX1_isInSet_1 : decode cX1_isInSet 1 = .ok (.iload_n 0, 1) := by decide +kernel
theorem dX1_isInSet_2 : decode cX1_isInSet 2 = .ok (.ishr, 1) := by decide +kernel
theorem dX1_isInSet_3 : decode cX1_isInSet 3 = .ok (.iconst 1, 1) := by decide +kernel
theorem dX1_isInSet_4 : decode cX1_isInSet 4 = .ok (.iand, 1) := by decide +kernel
theorem dX1_isInSet_5 : decode cX1_isInSet 5 = .ok (.ifCond .eq 7, 3) := by decide +kernel
theorem dX1_isInSet_8 : decode cX1_isInSet 8 = .ok (.iconst 1, 1) := by decide +kernel
theorem dX1_isInSet_9 : decode cX1_isInSet 9 = .ok (.goto 4, 3) := by decide +kernel
theorem dX1_isInSet_12 : decode cX1_isInSet 12 = .ok (.iconst 0, 1) := by decide +kernel
theorem dX1_isInSet_13 : decode cX1_isInSet 13 = .ok (.ireturn, 1) := by decide +kernel
