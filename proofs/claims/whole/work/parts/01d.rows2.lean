theorem dX2_init_0 : decode cX2_init 0 = .ok (.aload_n 0, 1) := by decide +kernel
theorem dX2_init_1 : decode cX2_init 1 = .ok (.invokespecial 1, 3) := by decide +kernel
theorem dX2_init_4 : decode cX2_init 4 = .ok (.aload_n 0, 1) := by decide +kernel
theorem dX2_init_5 : decode cX2_init 5 = .ok (.bipush 6, 2) := by decide +kernel
theorem dX2_init_7 : decode cX2_init 7 = .ok (.newarray .int, 2) := by decide +kernel
theorem dX2_init_9 : decode cX2_init 9 = .ok (.putfield 7, 3) := by decide +kernel
theorem dX2_init_12 : decode cX2_init 12 = .ok (.aload_n 0, 1) := by decide +kernel
theorem dX2_init_13 : decode cX2_init 13 = .ok (.bipush 6, 2) := by decide +kernel
theorem dX2_init_15 : decode cX2_init 15 = .ok (.newarray .int, 2) := by decide +kernel
theorem dX2_init_17 : decode cX2_init 17 = .ok (.putfield 13, 3) := by decide +kernel
theorem dX2_init_20 : decode cX2_init 20 = .ok (.aload_n 0, 1) := by decide +kernel
theorem dX2_init_21 : decode cX2_init 21 = .ok (.bipush 6, 2) := by decide +kernel
theorem dX2_init_23 : decode cX2_init 23 = .ok (.newarray .int, 2) := by decide +kernel
theorem dX2_init_25 : decode cX2_init 25 = .ok (.putfield 16, 3) := by decide +kernel
theorem dX2_init_28 : decode cX2_init 28 = .ok (.aload_n 0, 1) := by decide +kernel
theorem dX2_init_29 : decode cX2_init 29 = .ok (.iconst 5, 1) := by decide +kernel
theorem dX2_init_30 : decode cX2_init 30 = .ok (.newarray .int, 2) := by decide +kernel
theorem dX2_init_32 : decode cX2_init 32 = .ok (.putfield 19, 3) := by decide +kernel
theorem dX2_init_35 : decode cX2_init 35 = .ok (.aload_n 0, 1) := by decide +kernel
theorem dX2_init_36 : decode cX2_init 36 = .ok (.bipush 6, 2) := by decide +kernel
theorem dX2_init_38 : decode cX2_init 38 = .ok (.newarray .int, 2) := by decide +kernel
theorem dX2_init_40 : decode cX2_init 40 = .ok (.putfield 22, 3) := by decide +kernel
theorem dX2_init_43 : decode cX2_init 43 = .ok (.aload_n 0, 1) := by decide +kernel
theorem dX2_init_44 : decode cX2_init 44 = .ok (.bipush 6, 2) := by decide +kernel
theorem dX2_init_46 : decode cX2_init 46 = .ok (.newarray .int, 2) := by decide +kernel
theorem dX2_init_48 : decode cX2_init 48 = .ok (.putfield 25, 3) := by decide +kernel
theorem dX2_init_51 : decode cX2_init 51 = .ok (.aload_n 0, 1) := by decide +kernel
theorem dX2_init_52 : decode cX2_init 52 = .ok (.bipush 6, 2) := by decide +kernel
theorem dX2_init_54 : decode cX2_init 54 = .ok (.newarray .int, 2) := by decide +kernel
theorem dX2_init_56 : decode cX2_init 56 = .ok (.putfield 28, 3) := by decide +kernel
theorem dX2_init_59 : decode cX2_init 59 = .ok (.aload_n 0, 1) := by decide +kernel
theorem dX2_init_60 : decode cX2_init 60 = .ok (.bipush 6, 2) := by decide +kernel
theorem dX2_init_62 : decode cX2_init 62 = .ok (.newarray .boolean, 2) := by decide +kernel
theorem dX2_init_64 : decode cX2_init 64 = .ok (.putfield 31, 3) := by decide +kernel
theorem dX2_init_67 : decode cX2_init 67 = .ok (.aload_n 0, 1) := by decide +kernel
theorem dX2_init_68 : decode cX2_init 68 = .ok (.bipush 30, 2) := by decide +kernel
theorem dX2_init_70 : decode cX2_init 70 = .ok (.putfield 35, 3) := by decide +kernel
theorem dX2_init_73 : decode cX2_init 73 = .ok (.aload_n 0, 1) := by decide +kernel
theorem dX2_init_74 : decode cX2_init 74 = .ok (.iconst 4, 1) := by decide +kernel
theorem dX2_init_75 : decode cX2_init 75 = .ok (.putfield 39, 3) := by decide +kernel
theorem dX2_init_78 : decode cX2_init 78 = .ok (.aload_n 0, 1) := by decide +kernel
theorem dX2_init_79 : decode cX2_init 79 = .ok (.bipush 36, 2) := by decide +kernel
theorem dX2_init_81 : decode cX2_init 81 = .ok (.newarray .int, 2) := by decide +kernel
theorem dX2_init_83 : decode cX2_init 83 = .ok (.putfield 42, 3) := by decide +kernel
theorem dX2_init_86 : decode cX2_init 86 = .ok (.aload_n 0, 1) := by decide +kernel
theorem dX2_init_87 : decode cX2_init 87 = .ok (.bipush 36, 2) := by decide +kernel
theorem dX2_init_89 : decode cX2_init 89 = .ok (.newarray .int, 2) := by decide +kernel
theorem dX2_init_91 : decode cX2_init 91 = .ok (.putfield 45, 3) := by decide +kernel
theorem dX2_init_94 : decode cX2_init 94 = .ok (.aload_n 0, 1) := by decide +kernel
theorem dX2_init_95 : decode cX2_init 95 = .ok (.bipush 36, 2) := by decide +kernel
theorem dX2_init_97 : decode cX2_init 97 = .ok (.newarray .int, 2) := by decide +kernel
theorem dX2_init_99 : decode cX2_init 99 = .ok (.putfield 48, 3) := by decide +kernel
theorem dX2_init_102 : decode cX2_init 102 = .ok (.aload_n 0, 1) := by decide +kernel
theorem dX2_init_103 : decode cX2_init 103 = .ok (.bipush 36, 2) := by decide +kernel
theorem dX2_init_105 : decode cX2_init 105 = .ok (.newarray .int, 2) := by decide +kernel
theorem dX2_init_107 : decode cX2_init 107 = .ok (.putfield 51, 3) := by decide +kernel
theorem dX2_init_110 : decode cX2_init 110 = .ok (.aload_n 0, 1) := by decide +kernel
theorem dX2_init_111 : decode cX2_init 111 = .ok (.bipush 6, 2) := by decide +kernel
theorem dX2_init_113 : decode cX2_init 113 = .ok (.newarray .int, 2) := by decide +kernel
theorem dX2_init_115 : decode cX2_init 115 = .ok (.putfield 54, 3) := by decide +kernel
theorem dX2_init_118 : decode cX2_init 118 = .ok (.aload_n 0, 1) := by decide +kernel
theorem dX2_init_119 : decode cX2_init 119 = .ok (.iconst 5, 1) := by decide +kernel
theorem dX2_init_120 : decode cX2_init 120 = .ok (.newarray .int, 2) := by decide +kernel
theorem dX2_init_122 : decode cX2_init 122 = .ok (.putfield 57, 3) := by decide +kernel
theorem dX2_init_125 : decode cX2_init 125 = .ok (.aload_n 0, 1) := by decide +kernel
theorem dX2_init_126 : decode cX2_init 126 = .ok (.bipush 6, 2) := by decide +kernel
theorem dX2_init_128 : decode cX2_init 128 = .ok (.newarray .int, 2) := by decide +kernel
theorem dX2_init_130 : decode cX2_init 130 = .ok (.putfield 60, 3) := by decide +kernel
theorem dX2_init_133 : decode cX2_init 133 = .ok (.iconst 0, 1) := by decide +kernel
theorem dX2_init_134 : decode cX2_init 134 = .ok (.istore_n 1, 1) := by decide +kernel
theorem dX2_init_135 : decode cX2_init 135 = .ok (.iload_n 1, 1) := by decide +kernel
theorem dX2_init_136 : decode cX2_init 136 = .ok (.bipush 6, 2) := by decide +kernel
theorem dX2_init_138 : decode cX2_init 138 = .ok (.if_icmp .ge 25, 3) := by decide +kernel
theorem dX2_init_141 : decode cX2_init 141 = .ok (.aload_n 0, 1) := by decide +kernel
theorem dX2_init_142 : decode cX2_init 142 = .ok (.getfield 16, 3) := by decide +kernel
theorem dX2_init_145 : decode cX2_init 145 = .ok (.iload_n 1, 1) := by decide +kernel
theorem dX2_init_146 : decode cX2_init 146 = .ok (.bipush 10, 2) := by decide +kernel
theorem dX2_init_148 : decode cX2_init 148 = .ok (.iastore, 1) := by decide +kernel
theorem dX2_init_149 : decode cX2_init 149 = .ok (.aload_n 0, 1) := by decide +kernel
theorem dX2_init_150 : decode cX2_init 150 = .ok (.getfield 22, 3) := by decide +kernel
theorem dX2_init_153 : decode cX2_init 153 = .ok (.iload_n 1, 1) := by decide +kernel
theorem dX2_init_154 : decode cX2_init 154 = .ok (.bipush 20, 2) := by decide +kernel
theorem dX2_init_156 : decode cX2_init 156 = .ok (.iastore, 1) := by decide +kernel
theorem dX2_init_157 : decode cX2_init 157 = .ok (.iinc 1 1, 3) := by decide +kernel
theorem dX2_init_160 : decode cX2_init 160 = .ok (.goto (-25), 3) := by decide +kernel
theorem dX2_init_163 : decode cX2_init 163 = .ok (.iconst 0, 1) := by decide +kernel
theorem dX2_init_164 : decode cX2_init 164 = .ok (.istore_n 1, 1) := by decide +kernel
theorem dX2_init_165 : decode cX2_init 165 = .ok (.iload_n 1, 1) := by decide +kernel
theorem dX2_init_166 : decode cX2_init 166 = .ok (.iconst 5, 1) := by decide +kernel
theorem dX2_init_167 : decode cX2_init 167 = .ok (.if_icmp .ge 17, 3) := by decide +kernel
theorem dX2_init_170 : decode cX2_init 170 = .ok (.aload_n 0, 1) := by decide +kernel
theorem dX2_init_171 : decode cX2_init 171 = .ok (.getfield 19, 3) := by decide +kernel
theorem dX2_init_174 : decode cX2_init 174 = .ok (.iload_n 1, 1) := by decide +kernel
theorem dX2_init_175 : decode cX2_init 175 = .ok (.bipush 100, 2) := by decide +kernel
theorem dX2_init_177 : decode cX2_init 177 = .ok (.iastore, 1) := by decide +kernel
theorem dX2_init_178 : decode cX2_init 178 = .ok (.iinc 1 1, 3) := by decide +kernel
theorem dX2_init_181 : decode cX2_init 181 = .ok (.goto (-16), 3) := by decide +kernel
theorem dX2_init_184 : decode cX2_init 184 = .ok (.return_, 1) := by decide +kernel
theorem dX2_thrown_0 : decode cX2_thrown 0 = .ok (.aload_n 0, 1) := by decide +kernel
theorem dX2_thrown_1 : decode cX2_thrown 1 = .ok (.getfield 63, 3) := by decide +kernel
theorem dX2_thrown_4 : decode cX2_thrown 4 = .ok (.ireturn, 1) := by decide +kernel
theorem dX2_in_0 : decode cX2_in 0 = .ok (.iload_n 0, 1) := by decide +kernel
theorem dX2_in_1 : decode cX2_in 1 = .ok (.iload_n 1, 1) := by decide +kernel
theorem dX2_in_2 : decode cX2_in 2 = .ok (.if_icmp .lt 12, 3) := by decide +kernel
theorem dX2_in_5 : decode cX2_in 5 = .ok (.iload_n 0, 1) := by decide +kernel
theorem dX2_in_6 : decode cX2_in 6 = .ok (.iload_n 2, 1) := by decide +kernel
theorem dX2_in_7 : decode cX2_in 7 = .ok (.if_icmp .gt 7, 3) := by decide +kernel
theorem dX2_in_10 : decode cX2_in 10 = .ok (.iconst 1, 1) := by decide +kernel
theorem dX2_in_11 : decode cX2_in 11 = .ok (.goto 4, 3) := by decide +kernel
theorem dX2_in_14 : decode cX2_in 14 = .ok (.iconst 0, 1) := by decide +kernel
theorem dX2_in_15 : decode cX2_in 15 = .ok (.ireturn, 1) := by decide +kernel
theorem dX2_goes_0 : decode cX2_goes 0 = .ok (.aload_n 0, 1) := by decide +kernel
theorem dX2_goes_1 : decode cX2_goes 1 = .ok (.iload_n 1, 1) := by decide +kernel
theorem dX2_goes_2 : decode cX2_goes 2 = .ok (.ifCond .ne 7, 3) := by decide +kernel
theorem dX2_goes_5 : decode cX2_goes 5 = .ok (.iconst 1, 1) := by decide +kernel
theorem dX2_goes_6 : decode cX2_goes 6 = .ok (.goto 20, 3) := by decide +kernel
theorem dX2_goes_9 : decode cX2_goes 9 = .ok (.iload_n 2, 1) := by decide +kernel
theorem dX2_goes_10 : decode cX2_goes 10 = .ok (.ifCond .ne 7, 3) := by decide +kernel
theorem dX2_goes_13 : decode cX2_goes 13 = .ok (.iconst 2, 1) := by decide +kernel
theorem dX2_goes_14 : decode cX2_goes 14 = .ok (.goto 12, 3) := by decide +kernel
theorem dX2_goes_17 : decode cX2_goes 17 = .ok (.iload_n 3, 1) := by decide +kernel
theorem dX2_goes_18 : decode cX2_goes 18 = .ok (.ifCond .eq 7, 3) := by decide +kernel
theorem dX2_goes_21 : decode cX2_goes 21 = .ok (.iconst 0, 1) := by decide +kernel
theorem dX2_goes_22 : decode cX2_goes 22 = .ok (.goto 4, 3) := by decide +kernel
theorem dX2_goes_25 : decode cX2_goes 25 = .ok (.iconst 3, 1) := by decide +kernel
theorem dX2_goes_26 : decode cX2_goes 26 = .ok (.putfield 63, 3) := by decide +kernel
theorem dX2_goes_29 : decode cX2_goes 29 = .ok (.aload_n 0, 1) := by decide +kernel
theorem dX2_goes_30 : decode cX2_goes 30 = .ok (.getfield 63, 3) := by decide +kernel
theorem dX2_goes_33 : decode cX2_goes 33 = .ok (.ifCond .ne 7, 3) := by decide +kernel
theorem dX2_goes_36 : decode cX2_goes 36 = .ok (.iconst 1, 1) := by decide +kernel
theorem dX2_goes_37 : decode cX2_goes 37 = .ok (.goto 4, 3) := by decide +kernel
theorem dX2_goes_40 : decode cX2_goes 40 = .ok (.iconst 0, 1) := by decide +kernel
theorem dX2_goes_41 : decode cX2_goes 41 = .ok (.ireturn, 1) := by decide +kernel
set_option maxRecDepth 20000 in
theorem ggX2_isHouse_X2_in : GoodIn wsX2_isHouse wsX2_in := goodIn_r _ [4] (by decide +kernel) (by decide +kernel)
set_option maxRecDepth 20000 in
theorem gX2_isHouse_X2_in : GoodIn wsX2_isHouse (va_wsS RX2 66 yX2_in wsX2_in) := goodIn_app (goodIn_of _ (by decide +kernel)) ggX2_isHouse_X2_in
theorem dX2_isHouse_0 : decode cX2_isHouse 0 = .ok (.iload_n 0, 1) := by decide +kernel
theorem dX2_isHouse_1 : decode cX2_isHouse 1 = .ok (.iconst 0, 1) := by decide +kernel
theorem dX2_isHouse_2 : decode cX2_isHouse 2 = .ok (.iconst 5, 1) := by decide +kernel
theorem dX2_isHouse_3 : decode cX2_isHouse 3 = .ok (.invokestatic 66, 3) := by decide +kernel
theorem dX2_isHouse_6 : decode cX2_isHouse 6 = .ok (.ireturn, 1) := by decide +kernel
set_option maxRecDepth 20000 in
theorem ggX2_belongs_X2_isHouse : GoodIn wsX2_belongs wsX2_isHouse := goodIn_r _ [5, 6, 7, 4, 8] (by decide +kernel) (by decide +kernel)
set_option maxRecDepth 20000 in
theorem gX2_belongs_X2_isHouse : GoodIn wsX2_belongs (va_wsS RX2 70 yX2_isHouse wsX2_isHouse) := goodIn_app (goodIn_of _ (by decide +kernel)) ggX2_belongs_X2_isHouse
theorem dX2_belongs_0 : decode cX2_belongs 0 = .ok (.iload_n 1, 1) := by decide +kernel
theorem dX2_belongs_1 : decode cX2_belongs 1 = .ok (.invokestatic 70, 3) := by decide +kernel
theorem dX2_belongs_4 : decode cX2_belongs 4 = .ok (.ifCond .eq 16, 3) := by decide +kernel
theorem dX2_belongs_7 : decode cX2_belongs 7 = .ok (.aload_n 0, 1) := by decide +kernel
theorem dX2_belongs_8 : decode cX2_belongs 8 = .ok (.getfield 31, 3) := by decide +kernel
theorem dX2_belongs_11 : decode cX2_belongs 11 = .ok (.iload_n 1, 1) := by decide +kernel
theorem dX2_belongs_12 : decode cX2_belongs 12 = .ok (.baload, 1) := by decide +kernel
theorem dX2_belongs_13 : decode cX2_belongs 13 = .ok (.ifCond .ne 7, 3) := by decide +kernel
theorem dX2_belongs_16 : decode cX2_belongs 16 = .ok (.iconst 1, 1) := by decide +kernel
theorem dX2_belongs_17 : decode cX2_belongs 17 = .ok (.goto 4, 3) := by decide +kernel
theorem dX2_belongs_20 : decode cX2_belongs 20 = .ok (.iconst 0, 1) := by decide +kernel
theorem dX2_belongs_21 : decode cX2_belongs 21 = .ok (.ireturn, 1) := by decide +kernel
theorem dX2_lesser_0 : decode cX2_lesser 0 = .ok (.iload_n 0, 1) := by decide +kernel
theorem dX2_lesser_1 : decode cX2_lesser 1 = .ok (.iload_n 1, 1) := by decide +kernel
theorem dX2_lesser_2 : decode cX2_lesser 2 = .ok (.if_icmp .ge 7, 3) := by decide +kernel
theorem dX2_lesser_5 : decode cX2_lesser 5 = .ok (.iload_n 0, 1) := by decide +kernel
theorem dX2_lesser_6 : decode cX2_lesser 6 = .ok (.goto 4, 3) := by decide +kernel
theorem dX2_lesser_9 : decode cX2_lesser 9 = .ok (.iload_n 1, 1) := by decide +kernel
theorem dX2_lesser_10 : decode cX2_lesser 10 = .ok (.ireturn, 1) := by decide +kernel
theorem dX2_size_0 : decode cX2_size 0 = .ok (.iload_n 0, 1) := by decide +kernel
theorem dX2_size_1 : decode cX2_size 1 = .ok (.ifCond .ge 8, 3) := by decide +kernel
theorem dX2_size_4 : decode cX2_size 4 = .ok (.iload_n 0, 1) := by decide +kernel
theorem dX2_size_5 : decode cX2_size 5 = .ok (.ineg, 1) := by decide +kernel
theorem dX2_size_6 : decode cX2_size 6 = .ok (.goto 4, 3) := by decide +kernel
theorem dX2_size_9 : decode cX2_size 9 = .ok (.iload_n 0, 1) := by decide +kernel
theorem dX2_size_10 : decode cX2_size 10 = .ok (.ireturn, 1) := by decide +kernel
set_option maxRecDepth 20000 in
theorem ggX2_forecast_X2_isHouse : GoodIn wsX2_forecast wsX2_isHouse := goodIn_r _ [5, 6, 7, 4, 8] (by decide +kernel) (by decide +kernel)
set_option maxRecDepth 20000 in
theorem gX2_forecast_X2_isHouse : GoodIn wsX2_forecast (va_wsS RX2 70 yX2_isHouse wsX2_isHouse) := goodIn_app (goodIn_of _ (by decide +kernel)) ggX2_forecast_X2_isHouse
set_option maxRecDepth 20000 in
theorem ggX2_forecast_X2_in : GoodIn wsX2_forecast wsX2_in := goodIn_r _ [8] (by decide +kernel) (by decide +kernel)
set_option maxRecDepth 20000 in
theorem gX2_forecast_X2_in : GoodIn wsX2_forecast (va_wsS RX2 66 yX2_in wsX2_in) := goodIn_app (goodIn_of _ (by decide +kernel)) ggX2_forecast_X2_in
set_option maxRecDepth 20000 in
theorem ggX2_forecast_X2_belongs : GoodIn wsX2_forecast wsX2_belongs := goodIn_r _ [12, 13, 2, 3, 4, 5, 6, 7, 8, 19, 20, 21, 22, 23, 24, 25, 26, 27, 28, 29, 30, 31, 32, 33, 34, 35, 36, 37, 38, 39, 40] (by decide +kernel) (by decide +kernel)
set_option maxRecDepth 20000 in
theorem gX2_forecast_X2_belongs : GoodIn wsX2_forecast (wsV RX2 74 RX2 yX2_belongs wsX2_belongs) := goodIn_app (goodIn_of _ (by decide +kernel)) ggX2_forecast_X2_belongs
set_option maxRecDepth 20000 in
theorem ggX2_forecast_X2_goes : GoodIn wsX2_forecast wsX2_goes := goodIn_r _ [17, 18, 19, 20, 21, 22, 23, 24, 25, 26, 27, 28, 29, 30, 31, 32, 33, 34, 35, 36, 37, 38, 39, 40] (by decide +kernel) (by decide +kernel)
set_option maxRecDepth 20000 in
theorem gX2_forecast_X2_goes : GoodIn wsX2_forecast (wsV RX2 77 RX2 yX2_goes wsX2_goes) := goodIn_app (goodIn_of _ (by decide +kernel)) ggX2_forecast_X2_goes
theorem dX2_forecast_0 : decode cX2_forecast 0 = .ok (.aload_n 0, 1) := by decide +kernel
theorem dX2_forecast_1 : decode cX2_forecast 1 = .ok (.iload_n 1, 1) := by decide +kernel
theorem dX2_forecast_2 : decode cX2_forecast 2 = .ok (.invokestatic 70, 3) := by decide +kernel
theorem dX2_forecast_5 : decode cX2_forecast 5 = .ok (.iload_n 2, 1) := by decide +kernel
theorem dX2_forecast_6 : decode cX2_forecast 6 = .ok (.bipush (-50), 2) := by decide +kernel
theorem dX2_forecast_8 : decode cX2_forecast 8 = .ok (.bipush 50, 2) := by decide +kernel
theorem dX2_forecast_10 : decode cX2_forecast 10 = .ok (.invokestatic 66, 3) := by decide +kernel
theorem dX2_forecast_13 : decode cX2_forecast 13 = .ok (.aload_n 0, 1) := by decide +kernel
theorem dX2_forecast_14 : decode cX2_forecast 14 = .ok (.iload_n 1, 1) := by decide +kernel
theorem dX2_forecast_15 : decode cX2_forecast 15 = .ok (.invokevirtual 74, 3) := by decide +kernel
theorem dX2_forecast_18 : decode cX2_forecast 18 = .ok (.invokevirtual 77, 3) := by decide +kernel
theorem dX2_forecast_21 : decode cX2_forecast 21 = .ok (.ifCond .ne 5, 3) := by decide +kernel
theorem dX2_forecast_24 : decode cX2_forecast 24 = .ok (.iconst 0, 1) := by decide +kernel
theorem dX2_forecast_25 : decode cX2_forecast 25 = .ok (.ireturn, 1) := by decide +kernel
theorem dX2_forecast_26 : decode cX2_forecast 26 = .ok (.aload_n 0, 1) := by decide +kernel
theorem dX2_forecast_27 : decode cX2_forecast 27 = .ok (.getfield 7, 3) := by decide +kernel
theorem dX2_forecast_30 : decode cX2_forecast 30 = .ok (.iload_n 1, 1) := by decide +kernel
theorem dX2_forecast_31 : decode cX2_forecast 31 = .ok (.iaload, 1) := by decide +kernel
theorem dX2_forecast_32 : decode cX2_forecast 32 = .ok (.istore_n 3, 1) := by decide +kernel
theorem dX2_forecast_33 : decode cX2_forecast 33 = .ok (.aload_n 0, 1) := by decide +kernel
theorem dX2_forecast_34 : decode cX2_forecast 34 = .ok (.getfield 7, 3) := by decide +kernel
theorem dX2_forecast_37 : decode cX2_forecast 37 = .ok (.iload_n 1, 1) := by decide +kernel
theorem dX2_forecast_38 : decode cX2_forecast 38 = .ok (.iload_n 2, 1) := by decide +kernel
theorem dX2_forecast_39 : decode cX2_forecast 39 = .ok (.iastore, 1) := by decide +kernel
theorem dX2_forecast_40 : decode cX2_forecast 40 = .ok (.iload_n 3, 1) := by decide +kernel
theorem dX2_forecast_41 : decode cX2_forecast 41 = .ok (.ireturn, 1) := by decide +kernel
set_option maxRecDepth 20000 in
theorem ggX2_meter_X2_isHouse : GoodIn wsX2_meter wsX2_isHouse := goodIn_r _ [5, 6, 7, 4, 8] (by decide +kernel) (by decide +kernel)
set_option maxRecDepth 20000 in
theorem gX2_meter_X2_isHouse : GoodIn wsX2_meter (va_wsS RX2 70 yX2_isHouse wsX2_isHouse) := goodIn_app (goodIn_of _ (by decide +kernel)) ggX2_meter_X2_isHouse
set_option maxRecDepth 20000 in
theorem ggX2_meter_X2_in : GoodIn wsX2_meter wsX2_in := goodIn_r _ [8] (by decide +kernel) (by decide +kernel)
set_option maxRecDepth 20000 in
theorem gX2_meter_X2_in : GoodIn wsX2_meter (va_wsS RX2 66 yX2_in wsX2_in) := goodIn_app (goodIn_of _ (by decide +kernel)) ggX2_meter_X2_in
set_option maxRecDepth 20000 in
theorem ggX2_meter_X2_belongs : GoodIn wsX2_meter wsX2_belongs := goodIn_r _ [12, 13, 2, 3, 4, 5, 6, 7, 8, 19, 20, 21, 22, 23, 24, 25, 26, 27, 28, 29, 30, 31, 32, 33, 34, 35, 36, 37, 38, 39, 40] (by decide +kernel) (by decide +kernel)
set_option maxRecDepth 20000 in
theorem gX2_meter_X2_belongs : GoodIn wsX2_meter (wsV RX2 74 RX2 yX2_belongs wsX2_belongs) := goodIn_app (goodIn_of _ (by decide +kernel)) ggX2_meter_X2_belongs
set_option maxRecDepth 20000 in
theorem ggX2_meter_X2_goes : GoodIn wsX2_meter wsX2_goes := goodIn_r _ [17, 18, 19, 20, 21, 22, 23, 24, 25, 26, 27, 28, 29, 30, 31, 32, 33, 34, 35, 36, 37, 38, 39, 40] (by decide +kernel) (by decide +kernel)
set_option maxRecDepth 20000 in
theorem gX2_meter_X2_goes : GoodIn wsX2_meter (wsV RX2 77 RX2 yX2_goes wsX2_goes) := goodIn_app (goodIn_of _ (by decide +kernel)) ggX2_meter_X2_goes
theorem dX2_meter_0 : decode cX2_meter 0 = .ok (.aload_n 0, 1) := by decide +kernel
theorem dX2_meter_1 : decode cX2_meter 1 = .ok (.iload_n 1, 1) := by decide +kernel
theorem dX2_meter_2 : decode cX2_meter 2 = .ok (.invokestatic 70, 3) := by decide +kernel
theorem dX2_meter_5 : decode cX2_meter 5 = .ok (.iload_n 2, 1) := by decide +kernel
theorem dX2_meter_6 : decode cX2_meter 6 = .ok (.bipush (-50), 2) := by decide +kernel
theorem dX2_meter_8 : decode cX2_meter 8 = .ok (.bipush 50, 2) := by decide +kernel
theorem dX2_meter_10 : decode cX2_meter 10 = .ok (.invokestatic 66, 3) := by decide +kernel
theorem dX2_meter_13 : decode cX2_meter 13 = .ok (.aload_n 0, 1) := by decide +kernel
theorem dX2_meter_14 : decode cX2_meter 14 = .ok (.iload_n 1, 1) := by decide +kernel
theorem dX2_meter_15 : decode cX2_meter 15 = .ok (.invokevirtual 74, 3) := by decide +kernel
theorem dX2_meter_18 : decode cX2_meter 18 = .ok (.invokevirtual 77, 3) := by decide +kernel
theorem dX2_meter_21 : decode cX2_meter 21 = .ok (.ifCond .ne 5, 3) := by decide +kernel
theorem dX2_meter_24 : decode cX2_meter 24 = .ok (.iconst 0, 1) := by decide +kernel
theorem dX2_meter_25 : decode cX2_meter 25 = .ok (.ireturn, 1) := by decide +kernel
theorem dX2_meter_26 : decode cX2_meter 26 = .ok (.aload_n 0, 1) := by decide +kernel
theorem dX2_meter_27 : decode cX2_meter 27 = .ok (.getfield 13, 3) := by decide +kernel
theorem dX2_meter_30 : decode cX2_meter 30 = .ok (.iload_n 1, 1) := by decide +kernel
theorem dX2_meter_31 : decode cX2_meter 31 = .ok (.iaload, 1) := by decide +kernel
theorem dX2_meter_32 : decode cX2_meter 32 = .ok (.istore_n 3, 1) := by decide +kernel
theorem dX2_meter_33 : decode cX2_meter 33 = .ok (.aload_n 0, 1) := by decide +kernel
theorem dX2_meter_34 : decode cX2_meter 34 = .ok (.getfield 13, 3) := by decide +kernel
theorem dX2_meter_37 : decode cX2_meter 37 = .ok (.iload_n 1, 1) := by decide +kernel
theorem dX2_meter_38 : decode cX2_meter 38 = .ok (.iload_n 2, 1) := by decide +kernel
theorem dX2_meter_39 : decode cX2_meter 39 = .ok (.iastore, 1) := by decide +kernel
theorem dX2_meter_40 : decode cX2_meter 40 = .ok (.iload_n 3, 1) := by decide +kernel
theorem dX2_meter_41 : decode cX2_meter 41 = .ok (.ireturn, 1) := by decide +kernel
set_option maxRecDepth 20000 in
theorem ggX2_setPrice_X2_isHouse : GoodIn wsX2_setPrice wsX2_isHouse := goodIn_r _ [5, 6, 7, 4, 8] (by decide +kernel) (by decide +kernel)
set_option maxRecDepth 20000 in
theorem gX2_setPrice_X2_isHouse : GoodIn wsX2_setPrice (va_wsS RX2 70 yX2_isHouse wsX2_isHouse) := goodIn_app (goodIn_of _ (by decide +kernel)) ggX2_setPrice_X2_isHouse
set_option maxRecDepth 20000 in
theorem ggX2_setPrice_X2_in : GoodIn wsX2_setPrice wsX2_in := goodIn_r _ [8] (by decide +kernel) (by decide +kernel)
set_option maxRecDepth 20000 in
theorem gX2_setPrice_X2_in : GoodIn wsX2_setPrice (va_wsS RX2 66 yX2_in wsX2_in) := goodIn_app (goodIn_of _ (by decide +kernel)) ggX2_setPrice_X2_in
set_option maxRecDepth 20000 in
theorem ggX2_setPrice_X2_goes : GoodIn wsX2_setPrice wsX2_goes := goodIn_r _ [12, 13, 14, 15, 16, 17, 18, 19, 20, 21, 22, 23, 24, 25, 26, 27, 28, 29, 30, 31, 32, 33, 34, 35] (by decide +kernel) (by decide +kernel)
set_option maxRecDepth 20000 in
theorem gX2_setPrice_X2_goes : GoodIn wsX2_setPrice (wsV RX2 77 RX2 yX2_goes wsX2_goes) := goodIn_app (goodIn_of _ (by decide +kernel)) ggX2_setPrice_X2_goes
theorem dX2_setPrice_0 : decode cX2_setPrice 0 = .ok (.aload_n 0, 1) := by decide +kernel
theorem dX2_setPrice_1 : decode cX2_setPrice 1 = .ok (.iload_n 1, 1) := by decide +kernel
theorem dX2_setPrice_2 : decode cX2_setPrice 2 = .ok (.invokestatic 70, 3) := by decide +kernel
theorem dX2_setPrice_5 : decode cX2_setPrice 5 = .ok (.iload_n 2, 1) := by decide +kernel
theorem dX2_setPrice_6 : decode cX2_setPrice 6 = .ok (.iconst 0, 1) := by decide +kernel
theorem dX2_setPrice_7 : decode cX2_setPrice 7 = .ok (.bipush 100, 2) := by decide +kernel
theorem dX2_setPrice_9 : decode cX2_setPrice 9 = .ok (.invokestatic 66, 3) := by decide +kernel
theorem dX2_setPrice_12 : decode cX2_setPrice 12 = .ok (.iconst 1, 1) := by decide +kernel
theorem dX2_setPrice_13 : decode cX2_setPrice 13 = .ok (.invokevirtual 77, 3) := by decide +kernel
theorem dX2_setPrice_16 : decode cX2_setPrice 16 = .ok (.ifCond .ne 5, 3) := by decide +kernel
theorem dX2_setPrice_19 : decode cX2_setPrice 19 = .ok (.iconst 0, 1) := by decide +kernel
theorem dX2_setPrice_20 : decode cX2_setPrice 20 = .ok (.ireturn, 1) := by decide +kernel
theorem dX2_setPrice_21 : decode cX2_setPrice 21 = .ok (.aload_n 0, 1) := by decide +kernel
theorem dX2_setPrice_22 : decode cX2_setPrice 22 = .ok (.getfield 16, 3) := by decide +kernel
theorem dX2_setPrice_25 : decode cX2_setPrice 25 = .ok (.iload_n 1, 1) := by decide +kernel
theorem dX2_setPrice_26 : decode cX2_setPrice 26 = .ok (.iaload, 1) := by decide +kernel
theorem dX2_setPrice_27 : decode cX2_setPrice 27 = .ok (.istore_n 3, 1) := by decide +kernel
theorem dX2_setPrice_28 : decode cX2_setPrice 28 = .ok (.aload_n 0, 1) := by decide +kernel
theorem dX2_setPrice_29 : decode cX2_setPrice 29 = .ok (.getfield 16, 3) := by decide +kernel
theorem dX2_setPrice_32 : decode cX2_setPrice 32 = .ok (.iload_n 1, 1) := by decide +kernel
theorem dX2_setPrice_33 : decode cX2_setPrice 33 = .ok (.iload_n 2, 1) := by decide +kernel
theorem dX2_setPrice_34 : decode cX2_setPrice 34 = .ok (.iastore, 1) := by decide +kernel
theorem dX2_setPrice_35 : decode cX2_setPrice 35 = .ok (.iload_n 3, 1) := by decide +kernel
theorem dX2_setPrice_36 : decode cX2_setPrice 36 = .ok (.ireturn, 1) := by decide +kernel
set_option maxRecDepth 20000 in
theorem ggX2_setLimit_X2_in : GoodIn wsX2_setLimit wsX2_in := goodIn_r _ [5] (by decide +kernel) (by decide +kernel)
set_option maxRecDepth 20000 in
theorem gX2_setLimit_X2_in : GoodIn wsX2_setLimit (va_wsS RX2 66 yX2_in wsX2_in) := goodIn_app (goodIn_of _ (by decide +kernel)) ggX2_setLimit_X2_in
set_option maxRecDepth 20000 in
theorem ggX2_setLimit_X2_goes : GoodIn wsX2_setLimit wsX2_goes := goodIn_r _ [9, 10, 11, 12, 13, 14, 15, 16, 17, 18, 19, 20, 21, 22, 23, 24, 25, 26, 27, 28, 29, 30, 31, 32] (by decide +kernel) (by decide +kernel)
set_option maxRecDepth 20000 in
theorem gX2_setLimit_X2_goes : GoodIn wsX2_setLimit (wsV RX2 77 RX2 yX2_goes wsX2_goes) := goodIn_app (goodIn_of _ (by decide +kernel)) ggX2_setLimit_X2_goes
theorem dX2_setLimit_0 : decode cX2_setLimit 0 = .ok (.aload_n 0, 1) := by decide +kernel
theorem dX2_setLimit_1 : decode cX2_setLimit 1 = .ok (.iload_n 1, 1) := by decide +kernel
theorem dX2_setLimit_2 : decode cX2_setLimit 2 = .ok (.iconst 0, 1) := by decide +kernel
theorem dX2_setLimit_3 : decode cX2_setLimit 3 = .ok (.iconst 4, 1) := by decide +kernel
theorem dX2_setLimit_4 : decode cX2_setLimit 4 = .ok (.invokestatic 66, 3) := by decide +kernel
theorem dX2_setLimit_7 : decode cX2_setLimit 7 = .ok (.iload_n 2, 1) := by decide +kernel
theorem dX2_setLimit_8 : decode cX2_setLimit 8 = .ok (.iconst 0, 1) := by decide +kernel
theorem dX2_setLimit_9 : decode cX2_setLimit 9 = .ok (.sipush 300, 3) := by decide +kernel
theorem dX2_setLimit_12 : decode cX2_setLimit 12 = .ok (.invokestatic 66, 3) := by decide +kernel
theorem dX2_setLimit_15 : decode cX2_setLimit 15 = .ok (.iconst 1, 1) := by decide +kernel
theorem dX2_setLimit_16 : decode cX2_setLimit 16 = .ok (.invokevirtual 77, 3) := by decide +kernel
theorem dX2_setLimit_19 : decode cX2_setLimit 19 = .ok (.ifCond .ne 5, 3) := by decide +kernel
theorem dX2_setLimit_22 : decode cX2_setLimit 22 = .ok (.iconst 0, 1) := by decide +kernel
theorem dX2_setLimit_23 : decode cX2_setLimit 23 = .ok (.ireturn, 1) := by decide +kernel
theorem dX2_setLimit_24 : decode cX2_setLimit 24 = .ok (.aload_n 0, 1) := by decide +kernel
theorem dX2_setLimit_25 : decode cX2_setLimit 25 = .ok (.getfield 19, 3) := by decide +kernel
theorem dX2_setLimit_28 : decode cX2_setLimit 28 = .ok (.iload_n 1, 1) := by decide +kernel
theorem dX2_setLimit_29 : decode cX2_setLimit 29 = .ok (.iaload, 1) := by decide +kernel
theorem dX2_setLimit_30 : decode cX2_setLimit 30 = .ok (.istore_n 3, 1) := by decide +kernel
theorem dX2_setLimit_31 : decode cX2_setLimit 31 = .ok (.aload_n 0, 1) := by decide +kernel
theorem dX2_setLimit_32 : decode cX2_setLimit 32 = .ok (.getfield 19, 3) := by decide +kernel
theorem dX2_setLimit_35 : decode cX2_setLimit 35 = .ok (.iload_n 1, 1) := by decide +kernel
theorem dX2_setLimit_36 : decode cX2_setLimit 36 = .ok (.iload_n 2, 1) := by decide +kernel
theorem dX2_setLimit_37 : decode cX2_setLimit 37 = .ok (.iastore, 1) := by decide +kernel
theorem dX2_setLimit_38 : decode cX2_setLimit 38 = .ok (.iload_n 3, 1) := by decide +kernel
theorem dX2_setLimit_39 : decode cX2_setLimit 39 = .ok (.ireturn, 1) := by decide +kernel
set_option maxRecDepth 20000 in
theorem ggX2_setSupplier_X2_in : GoodIn wsX2_setSupplier wsX2_in := goodIn_r _ [6] (by decide +kernel) (by decide +kernel)
set_option maxRecDepth 20000 in
theorem gX2_setSupplier_X2_in : GoodIn wsX2_setSupplier (va_wsS RX2 66 yX2_in wsX2_in) := goodIn_app (goodIn_of _ (by decide +kernel)) ggX2_setSupplier_X2_in
set_option maxRecDepth 20000 in
theorem ggX2_setSupplier_X2_goes : GoodIn wsX2_setSupplier wsX2_goes := goodIn_r _ [10, 11, 12, 13, 14, 15, 16, 17, 18, 19, 20, 21, 22, 23, 24, 25, 26, 27, 28, 29, 30, 31, 32, 33] (by decide +kernel) (by decide +kernel)
set_option maxRecDepth 20000 in
theorem gX2_setSupplier_X2_goes : GoodIn wsX2_setSupplier (wsV RX2 77 RX2 yX2_goes wsX2_goes) := goodIn_app (goodIn_of _ (by decide +kernel)) ggX2_setSupplier_X2_goes
theorem dX2_setSupplier_0 : decode cX2_setSupplier 0 = .ok (.aload_n 0, 1) := by decide +kernel
theorem dX2_setSupplier_1 : decode cX2_setSupplier 1 = .ok (.iload_n 1, 1) := by decide +kernel
theorem dX2_setSupplier_2 : decode cX2_setSupplier 2 = .ok (.iconst 1, 1) := by decide +kernel
theorem dX2_setSupplier_3 : decode cX2_setSupplier 3 = .ok (.bipush 100, 2) := by decide +kernel
theorem dX2_setSupplier_5 : decode cX2_setSupplier 5 = .ok (.invokestatic 66, 3) := by decide +kernel
theorem dX2_setSupplier_8 : decode cX2_setSupplier 8 = .ok (.ifCond .eq 16, 3) := by decide +kernel
theorem dX2_setSupplier_11 : decode cX2_setSupplier 11 = .ok (.iload_n 2, 1) := by decide +kernel
theorem dX2_setSupplier_12 : decode cX2_setSupplier 12 = .ok (.iconst 0, 1) := by decide +kernel
theorem dX2_setSupplier_13 : decode cX2_setSupplier 13 = .ok (.iload_n 1, 1) := by decide +kernel
theorem dX2_setSupplier_14 : decode cX2_setSupplier 14 = .ok (.invokestatic 66, 3) := by decide +kernel
theorem dX2_setSupplier_17 : decode cX2_setSupplier 17 = .ok (.ifCond .eq 7, 3) := by decide +kernel
theorem dX2_setSupplier_20 : decode cX2_setSupplier 20 = .ok (.iconst 1, 1) := by decide +kernel
theorem dX2_setSupplier_21 : decode cX2_setSupplier 21 = .ok (.goto 4, 3) := by decide +kernel
theorem dX2_setSupplier_24 : decode cX2_setSupplier 24 = .ok (.iconst 0, 1) := by decide +kernel
theorem dX2_setSupplier_25 : decode cX2_setSupplier 25 = .ok (.iconst 1, 1) := by decide +kernel
theorem dX2_setSupplier_26 : decode cX2_setSupplier 26 = .ok (.iconst 1, 1) := by decide +kernel
theorem dX2_setSupplier_27 : decode cX2_setSupplier 27 = .ok (.invokevirtual 77, 3) := by decide +kernel
theorem dX2_setSupplier_30 : decode cX2_setSupplier 30 = .ok (.ifCond .eq 13, 3) := by decide +kernel
theorem dX2_setSupplier_33 : decode cX2_setSupplier 33 = .ok (.aload_n 0, 1) := by decide +kernel
theorem dX2_setSupplier_34 : decode cX2_setSupplier 34 = .ok (.iload_n 1, 1) := by decide +kernel
theorem dX2_setSupplier_35 : decode cX2_setSupplier 35 = .ok (.putfield 35, 3) := by decide +kernel
theorem dX2_setSupplier_38 : decode cX2_setSupplier 38 = .ok (.aload_n 0, 1) := by decide +kernel
theorem dX2_setSupplier_39 : decode cX2_setSupplier 39 = .ok (.iload_n 2, 1) := by decide +kernel
theorem dX2_setSupplier_40 : decode cX2_setSupplier 40 = .ok (.putfield 39, 3) := by decide +kernel
theorem dX2_setSupplier_43 : decode cX2_setSupplier 43 = .ok (.return_, 1) := by decide +kernel
set_option maxRecDepth 20000 in
theorem ggX2_rent_X2_isHouse : GoodIn wsX2_rent wsX2_isHouse := goodIn_r _ [6, 7, 8, 5, 9] (by decide +kernel) (by decide +kernel)
set_option maxRecDepth 20000 in
theorem gX2_rent_X2_isHouse : GoodIn wsX2_rent (va_wsS RX2 70 yX2_isHouse wsX2_isHouse) := goodIn_app (goodIn_of _ (by decide +kernel)) ggX2_rent_X2_isHouse
set_option maxRecDepth 20000 in
theorem ggX2_rent_X2_belongs : GoodIn wsX2_rent wsX2_belongs := goodIn_r _ [13, 14, 3, 4, 5, 6, 7, 8, 9, 20, 21, 22, 23, 24, 25, 26, 27, 28, 29, 30, 31, 32, 33, 34, 35, 36, 37, 38, 39, 40, 41] (by decide +kernel) (by decide +kernel)
set_option maxRecDepth 20000 in
theorem gX2_rent_X2_belongs : GoodIn wsX2_rent (wsV RX2 74 RX2 yX2_belongs wsX2_belongs) := goodIn_app (goodIn_of _ (by decide +kernel)) ggX2_rent_X2_belongs
set_option maxRecDepth 20000 in
theorem ggX2_rent_X2_in : GoodIn wsX2_rent wsX2_in := goodIn_r _ [9] (by decide +kernel) (by decide +kernel)
set_option maxRecDepth 20000 in
theorem gX2_rent_X2_in : GoodIn wsX2_rent (va_wsS RX2 66 yX2_in wsX2_in) := goodIn_app (goodIn_of _ (by decide +kernel)) ggX2_rent_X2_in
set_option maxRecDepth 20000 in
theorem ggX2_rent_X2_goes : GoodIn wsX2_rent wsX2_goes := goodIn_r _ [18, 19, 20, 21, 22, 23, 24, 25, 26, 27, 28, 29, 30, 31, 32, 33, 34, 35, 36, 37, 38, 39, 40, 41] (by decide +kernel) (by decide +kernel)
set_option maxRecDepth 20000 in
theorem gX2_rent_X2_goes : GoodIn wsX2_rent (wsV RX2 77 RX2 yX2_goes wsX2_goes) := goodIn_app (goodIn_of _ (by decide +kernel)) ggX2_rent_X2_goes
theorem dX2_rent_0 : decode cX2_rent 0 = .ok (.iload_n 1, 1) := by decide +kernel
theorem dX2_rent_1 : decode cX2_rent 1 = .ok (.invokestatic 70, 3) := by decide +kernel
theorem dX2_rent_4 : decode cX2_rent 4 = .ok (.ifCond .eq 14, 3) := by decide +kernel
theorem dX2_rent_7 : decode cX2_rent 7 = .ok (.iload_n 2, 1) := by decide +kernel
theorem dX2_rent_8 : decode cX2_rent 8 = .ok (.invokestatic 70, 3) := by decide +kernel
theorem dX2_rent_11 : decode cX2_rent 11 = .ok (.ifCond .eq 7, 3) := by decide +kernel
theorem dX2_rent_14 : decode cX2_rent 14 = .ok (.iconst 1, 1) := by decide +kernel
theorem dX2_rent_15 : decode cX2_rent 15 = .ok (.goto 4, 3) := by decide +kernel
theorem dX2_rent_18 : decode cX2_rent 18 = .ok (.iconst 0, 1) := by decide +kernel
theorem dX2_rent_19 : decode cX2_rent 19 = .ok (.istore 4, 2) := by decide +kernel
theorem dX2_rent_21 : decode cX2_rent 21 = .ok (.aload_n 0, 1) := by decide +kernel
theorem dX2_rent_22 : decode cX2_rent 22 = .ok (.iload_n 1, 1) := by decide +kernel
theorem dX2_rent_23 : decode cX2_rent 23 = .ok (.invokevirtual 74, 3) := by decide +kernel
theorem dX2_rent_26 : decode cX2_rent 26 = .ok (.ifCond .eq 32, 3) := by decide +kernel
theorem dX2_rent_29 : decode cX2_rent 29 = .ok (.aload_n 0, 1) := by decide +kernel
theorem dX2_rent_30 : decode cX2_rent 30 = .ok (.iload_n 2, 1) := by decide +kernel
theorem dX2_rent_31 : decode cX2_rent 31 = .ok (.invokevirtual 74, 3) := by decide +kernel
theorem dX2_rent_34 : decode cX2_rent 34 = .ok (.ifCond .eq 24, 3) := by decide +kernel
theorem dX2_rent_37 : decode cX2_rent 37 = .ok (.aload_n 0, 1) := by decide +kernel
theorem dX2_rent_38 : decode cX2_rent 38 = .ok (.getfield 22, 3) := by decide +kernel
theorem dX2_rent_41 : decode cX2_rent 41 = .ok (.iload_n 1, 1) := by decide +kernel
theorem dX2_rent_42 : decode cX2_rent 42 = .ok (.iaload, 1) := by decide +kernel
theorem dX2_rent_43 : decode cX2_rent 43 = .ok (.iload_n 3, 1) := by decide +kernel
theorem dX2_rent_44 : decode cX2_rent 44 = .ok (.isub, 1) := by decide +kernel
theorem dX2_rent_45 : decode cX2_rent 45 = .ok (.aload_n 0, 1) := by decide +kernel
theorem dX2_rent_46 : decode cX2_rent 46 = .ok (.getfield 25, 3) := by decide +kernel
theorem dX2_rent_49 : decode cX2_rent 49 = .ok (.iload_n 1, 1) := by decide +kernel
theorem dX2_rent_50 : decode cX2_rent 50 = .ok (.iaload, 1) := by decide +kernel
theorem dX2_rent_51 : decode cX2_rent 51 = .ok (.if_icmp .lt 7, 3) := by decide +kernel
theorem dX2_rent_54 : decode cX2_rent 54 = .ok (.iconst 1, 1) := by decide +kernel
theorem dX2_rent_55 : decode cX2_rent 55 = .ok (.goto 4, 3) := by decide +kernel
theorem dX2_rent_58 : decode cX2_rent 58 = .ok (.iconst 0, 1) := by decide +kernel
theorem dX2_rent_59 : decode cX2_rent 59 = .ok (.istore 5, 2) := by decide +kernel
theorem dX2_rent_61 : decode cX2_rent 61 = .ok (.aload_n 0, 1) := by decide +kernel
theorem dX2_rent_62 : decode cX2_rent 62 = .ok (.iload 4, 2) := by decide +kernel
theorem dX2_rent_64 : decode cX2_rent 64 = .ok (.iload_n 1, 1) := by decide +kernel
theorem dX2_rent_65 : decode cX2_rent 65 = .ok (.iload_n 2, 1) := by decide +kernel
theorem dX2_rent_66 : decode cX2_rent 66 = .ok (.if_icmp .eq 17, 3) := by decide +kernel
theorem dX2_rent_69 : decode cX2_rent 69 = .ok (.iload_n 3, 1) := by decide +kernel
theorem dX2_rent_70 : decode cX2_rent 70 = .ok (.iconst 1, 1) := by decide +kernel
theorem dX2_rent_71 : decode cX2_rent 71 = .ok (.bipush 100, 2) := by decide +kernel
theorem dX2_rent_73 : decode cX2_rent 73 = .ok (.invokestatic 66, 3) := by decide +kernel
theorem dX2_rent_76 : decode cX2_rent 76 = .ok (.ifCond .eq 7, 3) := by decide +kernel
theorem dX2_rent_79 : decode cX2_rent 79 = .ok (.iconst 1, 1) := by decide +kernel
theorem dX2_rent_80 : decode cX2_rent 80 = .ok (.goto 4, 3) := by decide +kernel
theorem dX2_rent_83 : decode cX2_rent 83 = .ok (.iconst 0, 1) := by decide +kernel
theorem dX2_rent_84 : decode cX2_rent 84 = .ok (.iload 4, 2) := by decide +kernel
theorem dX2_rent_86 : decode cX2_rent 86 = .ok (.ifCond .eq 12, 3) := by decide +kernel
theorem dX2_rent_89 : decode cX2_rent 89 = .ok (.iload 5, 2) := by decide +kernel
theorem dX2_rent_91 : decode cX2_rent 91 = .ok (.ifCond .eq 7, 3) := by decide +kernel
theorem dX2_rent_94 : decode cX2_rent 94 = .ok (.iconst 1, 1) := by decide +kernel
theorem dX2_rent_95 : decode cX2_rent 95 = .ok (.goto 4, 3) := by decide +kernel
theorem dX2_rent_98 : decode cX2_rent 98 = .ok (.iconst 0, 1) := by decide +kernel
theorem dX2_rent_99 : decode cX2_rent 99 = .ok (.invokevirtual 77, 3) := by decide +kernel
theorem dX2_rent_102 : decode cX2_rent 102 = .ok (.ifCond .ne 5, 3) := by decide +kernel
theorem dX2_rent_105 : decode cX2_rent 105 = .ok (.iconst 0, 1) := by decide +kernel
theorem dX2_rent_106 : decode cX2_rent 106 = .ok (.ireturn, 1) := by decide +kernel
theorem dX2_rent_107 : decode cX2_rent 107 = .ok (.aload_n 0, 1) := by decide +kernel
theorem dX2_rent_108 : decode cX2_rent 108 = .ok (.getfield 22, 3) := by decide +kernel
theorem dX2_rent_111 : decode cX2_rent 111 = .ok (.iload_n 1, 1) := by decide +kernel
theorem dX2_rent_112 : decode cX2_rent 112 = .ok (.dup2, 1) := by decide +kernel
theorem dX2_rent_113 : decode cX2_rent 113 = .ok (.iaload, 1) := by decide +kernel
theorem dX2_rent_114 : decode cX2_rent 114 = .ok (.iload_n 3, 1) := by decide +kernel
theorem dX2_rent_115 : decode cX2_rent 115 = .ok (.isub, 1) := by decide +kernel
theorem dX2_rent_116 : decode cX2_rent 116 = .ok (.iastore, 1) := by decide +kernel
theorem dX2_rent_117 : decode cX2_rent 117 = .ok (.aload_n 0, 1) := by decide +kernel
theorem dX2_rent_118 : decode cX2_rent 118 = .ok (.getfield 22, 3) := by decide +kernel
theorem dX2_rent_121 : decode cX2_rent 121 = .ok (.iload_n 2, 1) := by decide +kernel
theorem dX2_rent_122 : decode cX2_rent 122 = .ok (.dup2, 1) := by decide +kernel
theorem dX2_rent_123 : decode cX2_rent 123 = .ok (.iaload, 1) := by decide +kernel
theorem dX2_rent_124 : decode cX2_rent 124 = .ok (.iload_n 3, 1) := by decide +kernel
theorem dX2_rent_125 : decode cX2_rent 125 = .ok (.iadd, 1) := by decide +kernel
theorem dX2_rent_126 : decode cX2_rent 126 = .ok (.iastore, 1) := by decide +kernel
theorem dX2_rent_127 : decode cX2_rent 127 = .ok (.aload_n 0, 1) := by decide +kernel
theorem dX2_rent_128 : decode cX2_rent 128 = .ok (.getfield 22, 3) := by decide +kernel
theorem dX2_rent_131 : decode cX2_rent 131 = .ok (.iload_n 2, 1) := by decide +kernel
theorem dX2_rent_132 : decode cX2_rent 132 = .ok (.iaload, 1) := by decide +kernel
theorem dX2_rent_133 : decode cX2_rent 133 = .ok (.ireturn, 1) := by decide +kernel
set_option maxRecDepth 20000 in
theorem ggX2_leave_X2_isHouse : GoodIn wsX2_leave wsX2_isHouse := goodIn_r _ [10, 11, 12, 9, 13] (by decide +kernel) (by decide +kernel)
set_option maxRecDepth 20000 in
theorem gX2_leave_X2_isHouse : GoodIn wsX2_leave (va_wsS RX2 70 yX2_isHouse wsX2_isHouse) := goodIn_app (goodIn_of _ (by decide +kernel)) ggX2_leave_X2_isHouse
set_option maxRecDepth 20000 in
theorem ggX2_leave_X2_belongs : GoodIn wsX2_leave wsX2_belongs := goodIn_r _ [17, 6, 7, 8, 9, 10, 11, 12, 13, 23, 24, 25, 26, 27, 28, 29, 30, 31, 32, 33, 34, 35, 36, 37, 38, 39, 40, 41, 42, 43, 44] (by decide +kernel) (by decide +kernel)
set_option maxRecDepth 20000 in
theorem gX2_leave_X2_belongs : GoodIn wsX2_leave (wsV RX2 74 RX2 yX2_belongs wsX2_belongs) := goodIn_app (goodIn_of _ (by decide +kernel)) ggX2_leave_X2_belongs
set_option maxRecDepth 20000 in
theorem ggX2_leave_X2_goes : GoodIn wsX2_leave wsX2_goes := goodIn_r _ [21, 22, 23, 24, 25, 26, 27, 28, 29, 30, 31, 32, 33, 34, 35, 36, 37, 38, 39, 40, 41, 42, 43, 44] (by decide +kernel) (by decide +kernel)
set_option maxRecDepth 20000 in
theorem gX2_leave_X2_goes : GoodIn wsX2_leave (wsV RX2 77 RX2 yX2_goes wsX2_goes) := goodIn_app (goodIn_of _ (by decide +kernel)) ggX2_leave_X2_goes
theorem dX2_leave_0 : decode cX2_leave 0 = .ok (.aload_n 0, 1) := by decide +kernel
theorem dX2_leave_1 : decode cX2_leave 1 = .ok (.iload_n 1, 1) := by decide +kernel
theorem dX2_leave_2 : decode cX2_leave 2 = .ok (.invokestatic 70, 3) := by decide +kernel
theorem dX2_leave_5 : decode cX2_leave 5 = .ok (.aload_n 0, 1) := by decide +kernel
theorem dX2_leave_6 : decode cX2_leave 6 = .ok (.iload_n 1, 1) := by decide +kernel
theorem dX2_leave_7 : decode cX2_leave 7 = .ok (.invokevirtual 74, 3) := by decide +kernel
theorem dX2_leave_10 : decode cX2_leave 10 = .ok (.iconst 1, 1) := by decide +kernel
theorem dX2_leave_11 : decode cX2_leave 11 = .ok (.invokevirtual 77, 3) := by decide +kernel
theorem dX2_leave_14 : decode cX2_leave 14 = .ok (.ifCond .ne 5, 3) := by decide +kernel
theorem dX2_leave_17 : decode cX2_leave 17 = .ok (.iconst 0, 1) := by decide +kernel
theorem dX2_leave_18 : decode cX2_leave 18 = .ok (.ireturn, 1) := by decide +kernel
theorem dX2_leave_19 : decode cX2_leave 19 = .ok (.aload_n 0, 1) := by decide +kernel
theorem dX2_leave_20 : decode cX2_leave 20 = .ok (.getfield 25, 3) := by decide +kernel
theorem dX2_leave_23 : decode cX2_leave 23 = .ok (.iload_n 1, 1) := by decide +kernel
theorem dX2_leave_24 : decode cX2_leave 24 = .ok (.iaload, 1) := by decide +kernel
theorem dX2_leave_25 : decode cX2_leave 25 = .ok (.aload_n 0, 1) := by decide +kernel
theorem dX2_leave_26 : decode cX2_leave 26 = .ok (.getfield 39, 3) := by decide +kernel
theorem dX2_leave_29 : decode cX2_leave 29 = .ok (.imul, 1) := by decide +kernel
theorem dX2_leave_30 : decode cX2_leave 30 = .ok (.istore_n 2, 1) := by decide +kernel
theorem dX2_leave_31 : decode cX2_leave 31 = .ok (.aload_n 0, 1) := by decide +kernel
theorem dX2_leave_32 : decode cX2_leave 32 = .ok (.getfield 28, 3) := by decide +kernel
theorem dX2_leave_35 : decode cX2_leave 35 = .ok (.iload_n 1, 1) := by decide +kernel
theorem dX2_leave_36 : decode cX2_leave 36 = .ok (.dup2, 1) := by decide +kernel
theorem dX2_leave_37 : decode cX2_leave 37 = .ok (.iaload, 1) := by decide +kernel
theorem dX2_leave_38 : decode cX2_leave 38 = .ok (.iload_n 2, 1) := by decide +kernel
theorem dX2_leave_39 : decode cX2_leave 39 = .ok (.isub, 1) := by decide +kernel
theorem dX2_leave_40 : decode cX2_leave 40 = .ok (.iastore, 1) := by decide +kernel
theorem dX2_leave_41 : decode cX2_leave 41 = .ok (.aload_n 0, 1) := by decide +kernel
theorem dX2_leave_42 : decode cX2_leave 42 = .ok (.dup, 1) := by decide +kernel
theorem dX2_leave_43 : decode cX2_leave 43 = .ok (.getfield 81, 3) := by decide +kernel
theorem dX2_leave_46 : decode cX2_leave 46 = .ok (.iload_n 2, 1) := by decide +kernel
theorem dX2_leave_47 : decode cX2_leave 47 = .ok (.isub, 1) := by decide +kernel
theorem dX2_leave_48 : decode cX2_leave 48 = .ok (.putfield 81, 3) := by decide +kernel
theorem dX2_leave_51 : decode cX2_leave 51 = .ok (.aload_n 0, 1) := by decide +kernel
theorem dX2_leave_52 : decode cX2_leave 52 = .ok (.getfield 22, 3) := by decide +kernel
theorem dX2_leave_55 : decode cX2_leave 55 = .ok (.iload_n 1, 1) := by decide +kernel
theorem dX2_leave_56 : decode cX2_leave 56 = .ok (.iconst 0, 1) := by decide +kernel
theorem dX2_leave_57 : decode cX2_leave 57 = .ok (.iastore, 1) := by decide +kernel
theorem dX2_leave_58 : decode cX2_leave 58 = .ok (.aload_n 0, 1) := by decide +kernel
theorem dX2_leave_59 : decode cX2_leave 59 = .ok (.getfield 25, 3) := by decide +kernel
theorem dX2_leave_62 : decode cX2_leave 62 = .ok (.iload_n 1, 1) := by decide +kernel
theorem dX2_leave_63 : decode cX2_leave 63 = .ok (.iconst 0, 1) := by decide +kernel
theorem dX2_leave_64 : decode cX2_leave 64 = .ok (.iastore, 1) := by decide +kernel
theorem dX2_leave_65 : decode cX2_leave 65 = .ok (.aload_n 0, 1) := by decide +kernel
theorem dX2_leave_66 : decode cX2_leave 66 = .ok (.getfield 31, 3) := by decide +kernel
theorem dX2_leave_69 : decode cX2_leave 69 = .ok (.iload_n 1, 1) := by decide +kernel
theorem dX2_leave_70 : decode cX2_leave 70 = .ok (.iconst 1, 1) := by decide +kernel
theorem dX2_leave_71 : decode cX2_leave 71 = .ok (.bastore, 1) := by decide +kernel
theorem dX2_leave_72 : decode cX2_leave 72 = .ok (.iload_n 2, 1) := by decide +kernel
theorem dX2_leave_73 : decode cX2_leave 73 = .ok (.ireturn, 1) := by decide +kernel
theorem dX2_isBuyer_0 : decode cX2_isBuyer 0 = .ok (.aload_n 0, 1) := by decide +kernel
theorem dX2_isBuyer_1 : decode cX2_isBuyer 1 = .ok (.getfield 31, 3) := by decide +kernel
theorem dX2_isBuyer_4 : decode cX2_isBuyer 4 = .ok (.iload_n 1, 1) := by decide +kernel
theorem dX2_isBuyer_5 : decode cX2_isBuyer 5 = .ok (.baload, 1) := by decide +kernel
theorem dX2_isBuyer_6 : decode cX2_isBuyer 6 = .ok (.ifCond .ne 16, 3) := by decide +kernel
theorem dX2_isBuyer_9 : decode cX2_isBuyer 9 = .ok (.aload_n 0, 1) := by decide +kernel
theorem dX2_isBuyer_10 : decode cX2_isBuyer 10 = .ok (.getfield 13, 3) := by decide +kernel
theorem dX2_isBuyer_13 : decode cX2_isBuyer 13 = .ok (.iload_n 1, 1) := by decide +kernel
theorem dX2_isBuyer_14 : decode cX2_isBuyer 14 = .ok (.iaload, 1) := by decide +kernel
theorem dX2_isBuyer_15 : decode cX2_isBuyer 15 = .ok (.ifCond .ge 7, 3) := by decide +kernel
theorem dX2_isBuyer_18 : decode cX2_isBuyer 18 = .ok (.iconst 1, 1) := by decide +kernel
theorem dX2_isBuyer_19 : decode cX2_isBuyer 19 = .ok (.goto 4, 3) := by decide +kernel
theorem dX2_isBuyer_22 : decode cX2_isBuyer 22 = .ok (.iconst 0, 1) := by decide +kernel
theorem dX2_isBuyer_23 : decode cX2_isBuyer 23 = .ok (.ireturn, 1) := by decide +kernel
theorem dX2_isSeller_0 : decode cX2_isSeller 0 = .ok (.aload_n 0, 1) := by decide +kernel
theorem dX2_isSeller_1 : decode cX2_isSeller 1 = .ok (.getfield 31, 3) := by decide +kernel
theorem dX2_isSeller_4 : decode cX2_isSeller 4 = .ok (.iload_n 1, 1) := by decide +kernel
theorem dX2_isSeller_5 : decode cX2_isSeller 5 = .ok (.baload, 1) := by decide +kernel
theorem dX2_isSeller_6 : decode cX2_isSeller 6 = .ok (.ifCond .ne 16, 3) := by decide +kernel
theorem dX2_isSeller_9 : decode cX2_isSeller 9 = .ok (.aload_n 0, 1) := by decide +kernel
theorem dX2_isSeller_10 : decode cX2_isSeller 10 = .ok (.getfield 13, 3) := by decide +kernel
theorem dX2_isSeller_13 : decode cX2_isSeller 13 = .ok (.iload_n 1, 1) := by decide +kernel
theorem dX2_isSeller_14 : decode cX2_isSeller 14 = .ok (.iaload, 1) := by decide +kernel
theorem dX2_isSeller_15 : decode cX2_isSeller 15 = .ok (.ifCond .le 7, 3) := by decide +kernel
theorem dX2_isSeller_18 : decode cX2_isSeller 18 = .ok (.iconst 1, 1) := by decide +kernel
theorem dX2_isSeller_19 : decode cX2_isSeller 19 = .ok (.goto 4, 3) := by decide +kernel
theorem dX2_isSeller_22 : decode cX2_isSeller 22 = .ok (.iconst 0, 1) := by decide +kernel
theorem dX2_isSeller_23 : decode cX2_isSeller 23 = .ok (.ireturn, 1) := by decide +kernel
set_option maxRecDepth 20000 in
theorem ggX2_turnOf_X2_isBuyer : GoodIn wsX2_turnOf wsX2_isBuyer := goodIn_r _ [6, 7, 8, 9, 10, 11, 12, 13, 14, 15, 16, 17, 18, 19, 20, 21, 22, 23, 24, 25, 26, 27, 28, 29, 30] (by decide +kernel) (by decide +kernel)
set_option maxRecDepth 20000 in
theorem gX2_turnOf_X2_isBuyer : GoodIn wsX2_turnOf (wsV RX2 84 RX2 yX2_isBuyer wsX2_isBuyer) := goodIn_app (goodIn_of _ (by decide +kernel)) ggX2_turnOf_X2_isBuyer
theorem dX2_turnOf_0 : decode cX2_turnOf 0 = .ok (.iconst 0, 1) := by decide +kernel
theorem dX2_turnOf_1 : decode cX2_turnOf 1 = .ok (.istore_n 2, 1) := by decide +kernel
theorem dX2_turnOf_2 : decode cX2_turnOf 2 = .ok (.iconst 0, 1) := by decide +kernel
theorem dX2_turnOf_3 : decode cX2_turnOf 3 = .ok (.istore_n 3, 1) := by decide +kernel
theorem dX2_turnOf_4 : decode cX2_turnOf 4 = .ok (.iload_n 3, 1) := by decide +kernel
theorem dX2_turnOf_5 : decode cX2_turnOf 5 = .ok (.bipush 6, 2) := by decide +kernel
theorem dX2_turnOf_7 : decode cX2_turnOf 7 = .ok (.if_icmp .ge 60, 3) := by decide +kernel
theorem dX2_turnOf_10 : decode cX2_turnOf 10 = .ok (.iload_n 2, 1) := by decide +kernel
theorem dX2_turnOf_11 : decode cX2_turnOf 11 = .ok (.aload_n 0, 1) := by decide +kernel
theorem dX2_turnOf_12 : decode cX2_turnOf 12 = .ok (.iload_n 3, 1) := by decide +kernel
theorem dX2_turnOf_13 : decode cX2_turnOf 13 = .ok (.invokevirtual 84, 3) := by decide +kernel
theorem dX2_turnOf_16 : decode cX2_turnOf 16 = .ok (.ifCond .eq 42, 3) := by decide +kernel
theorem dX2_turnOf_19 : decode cX2_turnOf 19 = .ok (.aload_n 0, 1) := by decide +kernel
theorem dX2_turnOf_20 : decode cX2_turnOf 20 = .ok (.getfield 16, 3) := by decide +kernel
theorem dX2_turnOf_23 : decode cX2_turnOf 23 = .ok (.iload_n 3, 1) := by decide +kernel
theorem dX2_turnOf_24 : decode cX2_turnOf 24 = .ok (.iaload, 1) := by decide +kernel
theorem dX2_turnOf_25 : decode cX2_turnOf 25 = .ok (.aload_n 0, 1) := by decide +kernel
theorem dX2_turnOf_26 : decode cX2_turnOf 26 = .ok (.getfield 16, 3) := by decide +kernel
theorem dX2_turnOf_29 : decode cX2_turnOf 29 = .ok (.iload_n 1, 1) := by decide +kernel
theorem dX2_turnOf_30 : decode cX2_turnOf 30 = .ok (.iaload, 1) := by decide +kernel
theorem dX2_turnOf_31 : decode cX2_turnOf 31 = .ok (.if_icmp .gt 23, 3) := by decide +kernel
theorem dX2_turnOf_34 : decode cX2_turnOf 34 = .ok (.aload_n 0, 1) := by decide +kernel
theorem dX2_turnOf_35 : decode cX2_turnOf 35 = .ok (.getfield 16, 3) := by decide +kernel
theorem dX2_turnOf_38 : decode cX2_turnOf 38 = .ok (.iload_n 3, 1) := by decide +kernel
theorem dX2_turnOf_39 : decode cX2_turnOf 39 = .ok (.iaload, 1) := by decide +kernel
theorem dX2_turnOf_40 : decode cX2_turnOf 40 = .ok (.aload_n 0, 1) := by decide +kernel
theorem dX2_turnOf_41 : decode cX2_turnOf 41 = .ok (.getfield 16, 3) := by decide +kernel
theorem dX2_turnOf_44 : decode cX2_turnOf 44 = .ok (.iload_n 1, 1) := by decide +kernel
theorem dX2_turnOf_45 : decode cX2_turnOf 45 = .ok (.iaload, 1) := by decide +kernel
theorem dX2_turnOf_46 : decode cX2_turnOf 46 = .ok (.if_icmp .ne 12, 3) := by decide +kernel
theorem dX2_turnOf_49 : decode cX2_turnOf 49 = .ok (.iload_n 3, 1) := by decide +kernel
theorem dX2_turnOf_50 : decode cX2_turnOf 50 = .ok (.iload_n 1, 1) := by decide +kernel
theorem dX2_turnOf_51 : decode cX2_turnOf 51 = .ok (.if_icmp .ge 7, 3) := by decide +kernel
theorem dX2_turnOf_54 : decode cX2_turnOf 54 = .ok (.iconst 1, 1) := by decide +kernel
theorem dX2_turnOf_55 : decode cX2_turnOf 55 = .ok (.goto 4, 3) := by decide +kernel
theorem dX2_turnOf_58 : decode cX2_turnOf 58 = .ok (.iconst 0, 1) := by decide +kernel
theorem dX2_turnOf_59 : decode cX2_turnOf 59 = .ok (.iadd, 1) := by decide +kernel
theorem dX2_turnOf_60 : decode cX2_turnOf 60 = .ok (.istore_n 2, 1) := by decide +kernel
theorem dX2_turnOf_61 : decode cX2_turnOf 61 = .ok (.iinc 3 1, 3) := by decide +kernel
theorem dX2_turnOf_64 : decode cX2_turnOf 64 = .ok (.goto (-60), 3) := by decide +kernel
theorem dX2_turnOf_67 : decode cX2_turnOf 67 = .ok (.iload_n 2, 1) := by decide +kernel
theorem dX2_turnOf_68 : decode cX2_turnOf 68 = .ok (.ireturn, 1) := by decide +kernel
set_option maxRecDepth 20000 in
theorem ggX2_sellerFor_X2_isSeller : GoodIn wsX2_sellerFor wsX2_isSeller := goodIn_r _ [7, 8, 9, 13, 14, 15, 16, 17, 18, 19, 20, 21, 22, 23, 24, 25, 26, 27, 28, 29, 30, 31, 32, 33, 34] (by decide +kernel) (by decide +kernel)
set_option maxRecDepth 20000 in
theorem gX2_sellerFor_X2_isSeller : GoodIn wsX2_sellerFor (wsV RX2 87 RX2 yX2_isSeller wsX2_isSeller) := goodIn_app (goodIn_of _ (by decide +kernel)) ggX2_sellerFor_X2_isSeller
set_option maxRecDepth 20000 in
theorem ggX2_sellerFor_X2_size : GoodIn wsX2_sellerFor wsX2_size := goodIn_r _ [12] (by decide +kernel) (by decide +kernel)
set_option maxRecDepth 20000 in
theorem gX2_sellerFor_X2_size : GoodIn wsX2_sellerFor (va_wsS RX2 90 yX2_size wsX2_size) := goodIn_app (goodIn_of _ (by decide +kernel)) ggX2_sellerFor_X2_size
theorem dX2_sellerFor_0 : decode cX2_sellerFor 0 = .ok (.iconst (-1), 1) := by decide +kernel
theorem dX2_sellerFor_1 : decode cX2_sellerFor 1 = .ok (.istore_n 2, 1) := by decide +kernel
theorem dX2_sellerFor_2 : decode cX2_sellerFor 2 = .ok (.iconst 0, 1) := by decide +kernel
theorem dX2_sellerFor_3 : decode cX2_sellerFor 3 = .ok (.istore_n 3, 1) := by decide +kernel
theorem dX2_sellerFor_4 : decode cX2_sellerFor 4 = .ok (.iload_n 3, 1) := by decide +kernel
theorem dX2_sellerFor_5 : decode cX2_sellerFor 5 = .ok (.bipush 6, 2) := by decide +kernel
theorem dX2_sellerFor_7 : decode cX2_sellerFor 7 = .ok (.if_icmp .ge 126, 3) := by decide +kernel
theorem dX2_sellerFor_10 : decode cX2_sellerFor 10 = .ok (.aload_n 0, 1) := by decide +kernel
theorem dX2_sellerFor_11 : decode cX2_sellerFor 11 = .ok (.iload_n 3, 1) := by decide +kernel
theorem dX2_sellerFor_12 : decode cX2_sellerFor 12 = .ok (.invokevirtual 87, 3) := by decide +kernel
theorem dX2_sellerFor_15 : decode cX2_sellerFor 15 = .ok (.ifCond .eq 112, 3) := by decide +kernel
theorem dX2_sellerFor_18 : decode cX2_sellerFor 18 = .ok (.aload_n 0, 1) := by decide +kernel
theorem dX2_sellerFor_19 : decode cX2_sellerFor 19 = .ok (.getfield 60, 3) := by decide +kernel
theorem dX2_sellerFor_22 : decode cX2_sellerFor 22 = .ok (.iload_n 3, 1) := by decide +kernel
theorem dX2_sellerFor_23 : decode cX2_sellerFor 23 = .ok (.iaload, 1) := by decide +kernel
theorem dX2_sellerFor_24 : decode cX2_sellerFor 24 = .ok (.ifCond .le 103, 3) := by decide +kernel
theorem dX2_sellerFor_27 : decode cX2_sellerFor 27 = .ok (.aload_n 0, 1) := by decide +kernel
theorem dX2_sellerFor_28 : decode cX2_sellerFor 28 = .ok (.getfield 16, 3) := by decide +kernel
theorem dX2_sellerFor_31 : decode cX2_sellerFor 31 = .ok (.iload_n 3, 1) := by decide +kernel
theorem dX2_sellerFor_32 : decode cX2_sellerFor 32 = .ok (.iaload, 1) := by decide +kernel
theorem dX2_sellerFor_33 : decode cX2_sellerFor 33 = .ok (.aload_n 0, 1) := by decide +kernel
theorem dX2_sellerFor_34 : decode cX2_sellerFor 34 = .ok (.getfield 16, 3) := by decide +kernel
theorem dX2_sellerFor_37 : decode cX2_sellerFor 37 = .ok (.iload_n 1, 1) := by decide +kernel
theorem dX2_sellerFor_38 : decode cX2_sellerFor 38 = .ok (.iaload, 1) := by decide +kernel
theorem dX2_sellerFor_39 : decode cX2_sellerFor 39 = .ok (.if_icmp .gt 88, 3) := by decide +kernel
theorem dX2_sellerFor_42 : decode cX2_sellerFor 42 = .ok (.iload_n 2, 1) := by decide +kernel
theorem dX2_sellerFor_43 : decode cX2_sellerFor 43 = .ok (.iconst (-1), 1) := by decide +kernel
theorem dX2_sellerFor_44 : decode cX2_sellerFor 44 = .ok (.if_icmp .eq 18, 3) := by decide +kernel
theorem dX2_sellerFor_47 : decode cX2_sellerFor 47 = .ok (.aload_n 0, 1) := by decide +kernel
theorem dX2_sellerFor_48 : decode cX2_sellerFor 48 = .ok (.getfield 16, 3) := by decide +kernel
theorem dX2_sellerFor_51 : decode cX2_sellerFor 51 = .ok (.iload_n 3, 1) := by decide +kernel
theorem dX2_sellerFor_52 : decode cX2_sellerFor 52 = .ok (.iaload, 1) := by decide +kernel
theorem dX2_sellerFor_53 : decode cX2_sellerFor 53 = .ok (.aload_n 0, 1) := by decide +kernel
theorem dX2_sellerFor_54 : decode cX2_sellerFor 54 = .ok (.getfield 16, 3) := by decide +kernel
theorem dX2_sellerFor_57 : decode cX2_sellerFor 57 = .ok (.iload_n 2, 1) := by decide +kernel
theorem dX2_sellerFor_58 : decode cX2_sellerFor 58 = .ok (.iaload, 1) := by decide +kernel
theorem dX2_sellerFor_59 : decode cX2_sellerFor 59 = .ok (.if_icmp .ge 7, 3) := by decide +kernel
theorem dX2_sellerFor_62 : decode cX2_sellerFor 62 = .ok (.iconst 1, 1) := by decide +kernel
theorem dX2_sellerFor_63 : decode cX2_sellerFor 63 = .ok (.goto 4, 3) := by decide +kernel
theorem dX2_sellerFor_66 : decode cX2_sellerFor 66 = .ok (.iconst 0, 1) := by decide +kernel
theorem dX2_sellerFor_67 : decode cX2_sellerFor 67 = .ok (.istore 4, 2) := by decide +kernel
theorem dX2_sellerFor_69 : decode cX2_sellerFor 69 = .ok (.iload_n 2, 1) := by decide +kernel
theorem dX2_sellerFor_70 : decode cX2_sellerFor 70 = .ok (.iconst (-1), 1) := by decide +kernel
theorem dX2_sellerFor_71 : decode cX2_sellerFor 71 = .ok (.if_icmp .eq 37, 3) := by decide +kernel
theorem dX2_sellerFor_74 : decode cX2_sellerFor 74 = .ok (.aload_n 0, 1) := by decide +kernel
theorem dX2_sellerFor_75 : decode cX2_sellerFor 75 = .ok (.getfield 16, 3) := by decide +kernel
theorem dX2_sellerFor_78 : decode cX2_sellerFor 78 = .ok (.iload_n 3, 1) := by decide +kernel
theorem dX2_sellerFor_79 : decode cX2_sellerFor 79 = .ok (.iaload, 1) := by decide +kernel
theorem dX2_sellerFor_80 : decode cX2_sellerFor 80 = .ok (.aload_n 0, 1) := by decide +kernel
theorem dX2_sellerFor_81 : decode cX2_sellerFor 81 = .ok (.getfield 16, 3) := by decide +kernel
theorem dX2_sellerFor_84 : decode cX2_sellerFor 84 = .ok (.iload_n 2, 1) := by decide +kernel
theorem dX2_sellerFor_85 : decode cX2_sellerFor 85 = .ok (.iaload, 1) := by decide +kernel
theorem dX2_sellerFor_86 : decode cX2_sellerFor 86 = .ok (.if_icmp .ne 22, 3) := by decide +kernel
theorem dX2_sellerFor_89 : decode cX2_sellerFor 89 = .ok (.iload_n 3, 1) := by decide +kernel
theorem dX2_sellerFor_90 : decode cX2_sellerFor 90 = .ok (.iload_n 1, 1) := by decide +kernel
theorem dX2_sellerFor_91 : decode cX2_sellerFor 91 = .ok (.isub, 1) := by decide +kernel
theorem dX2_sellerFor_92 : decode cX2_sellerFor 92 = .ok (.invokestatic 90, 3) := by decide +kernel
theorem dX2_sellerFor_95 : decode cX2_sellerFor 95 = .ok (.iload_n 2, 1) := by decide +kernel
theorem dX2_sellerFor_96 : decode cX2_sellerFor 96 = .ok (.iload_n 1, 1) := by decide +kernel
theorem dX2_sellerFor_97 : decode cX2_sellerFor 97 = .ok (.isub, 1) := by decide +kernel
theorem dX2_sellerFor_98 : decode cX2_sellerFor 98 = .ok (.invokestatic 90, 3) := by decide +kernel
theorem dX2_sellerFor_101 : decode cX2_sellerFor 101 = .ok (.if_icmp .ge 7, 3) := by decide +kernel
theorem dX2_sellerFor_104 : decode cX2_sellerFor 104 = .ok (.iconst 1, 1) := by decide +kernel
theorem dX2_sellerFor_105 : decode cX2_sellerFor 105 = .ok (.goto 4, 3) := by decide +kernel
theorem dX2_sellerFor_108 : decode cX2_sellerFor 108 = .ok (.iconst 0, 1) := by decide +kernel
theorem dX2_sellerFor_109 : decode cX2_sellerFor 109 = .ok (.istore 5, 2) := by decide +kernel
theorem dX2_sellerFor_111 : decode cX2_sellerFor 111 = .ok (.iload 4, 2) := by decide +kernel
theorem dX2_sellerFor_113 : decode cX2_sellerFor 113 = .ok (.ifCond .ne 8, 3) := by decide +kernel
theorem dX2_sellerFor_116 : decode cX2_sellerFor 116 = .ok (.iload 5, 2) := by decide +kernel
theorem dX2_sellerFor_118 : decode cX2_sellerFor 118 = .ok (.ifCond .eq 7, 3) := by decide +kernel
theorem dX2_sellerFor_121 : decode cX2_sellerFor 121 = .ok (.iload_n 3, 1) := by decide +kernel
theorem dX2_sellerFor_122 : decode cX2_sellerFor 122 = .ok (.goto 4, 3) := by decide +kernel
theorem dX2_sellerFor_125 : decode cX2_sellerFor 125 = .ok (.iload_n 2, 1) := by decide +kernel
theorem dX2_sellerFor_126 : decode cX2_sellerFor 126 = .ok (.istore_n 2, 1) := by decide +kernel
theorem dX2_sellerFor_127 : decode cX2_sellerFor 127 = .ok (.iinc 3 1, 3) := by decide +kernel
theorem dX2_sellerFor_130 : decode cX2_sellerFor 130 = .ok (.goto (-126), 3) := by decide +kernel
theorem dX2_sellerFor_133 : decode cX2_sellerFor 133 = .ok (.iload_n 2, 1) := by decide +kernel
theorem dX2_sellerFor_134 : decode cX2_sellerFor 134 = .ok (.ireturn, 1) := by decide +kernel
set_option maxRecDepth 20000 in
theorem ggX2_takes_X2_sellerFor : GoodIn wsX2_takes wsX2_sellerFor := goodIn_r _ [12, 1, 7, 13, 14, 15, 11, 16, 17, 18, 19, 20, 21, 25, 26, 27, 28, 29, 30, 31, 32, 33, 34, 35, 36, 37, 38, 39, 40, 41, 42, 43, 44, 45, 46] (by decide +kernel) (by decide +kernel)
set_option maxRecDepth 20000 in
theorem gX2_takes_X2_sellerFor : GoodIn wsX2_takes (wsV RX2 94 RX2 yX2_sellerFor wsX2_sellerFor) := goodIn_app (goodIn_of _ (by decide +kernel)) ggX2_takes_X2_sellerFor
set_option maxRecDepth 20000 in
theorem ggX2_takes_X2_lesser : GoodIn wsX2_takes wsX2_lesser := goodIn_r _ [24] (by decide +kernel) (by decide +kernel)
set_option maxRecDepth 20000 in
theorem gX2_takes_X2_lesser : GoodIn wsX2_takes (va_wsS RX2 97 yX2_lesser wsX2_lesser) := goodIn_app (goodIn_of _ (by decide +kernel)) ggX2_takes_X2_lesser
theorem dX2_takes_0 : decode cX2_takes 0 = .ok (.aload_n 0, 1) := by decide +kernel
theorem dX2_takes_1 : decode cX2_takes 1 = .ok (.iload_n 1, 1) := by decide +kernel
theorem dX2_takes_2 : decode cX2_takes 2 = .ok (.invokevirtual 94, 3) := by decide +kernel
theorem dX2_takes_5 : decode cX2_takes 5 = .ok (.istore_n 2, 1) := by decide +kernel
theorem dX2_takes_6 : decode cX2_takes 6 = .ok (.aload_n 0, 1) := by decide +kernel
theorem dX2_takes_7 : decode cX2_takes 7 = .ok (.getfield 60, 3) := by decide +kernel
theorem dX2_takes_10 : decode cX2_takes 10 = .ok (.iload_n 1, 1) := by decide +kernel
theorem dX2_takes_11 : decode cX2_takes 11 = .ok (.iaload, 1) := by decide +kernel
theorem dX2_takes_12 : decode cX2_takes 12 = .ok (.ifCond .le 117, 3) := by decide +kernel
theorem dX2_takes_15 : decode cX2_takes 15 = .ok (.iload_n 2, 1) := by decide +kernel
theorem dX2_takes_16 : decode cX2_takes 16 = .ok (.iconst (-1), 1) := by decide +kernel
theorem dX2_takes_17 : decode cX2_takes 17 = .ok (.if_icmp .eq 112, 3) := by decide +kernel
theorem dX2_takes_20 : decode cX2_takes 20 = .ok (.aload_n 0, 1) := by decide +kernel
theorem dX2_takes_21 : decode cX2_takes 21 = .ok (.getfield 60, 3) := by decide +kernel
theorem dX2_takes_24 : decode cX2_takes 24 = .ok (.iload_n 1, 1) := by decide +kernel
theorem dX2_takes_25 : decode cX2_takes 25 = .ok (.iaload, 1) := by decide +kernel
theorem dX2_takes_26 : decode cX2_takes 26 = .ok (.aload_n 0, 1) := by decide +kernel
theorem dX2_takes_27 : decode cX2_takes 27 = .ok (.getfield 60, 3) := by decide +kernel
theorem dX2_takes_30 : decode cX2_takes 30 = .ok (.iload_n 2, 1) := by decide +kernel
theorem dX2_takes_31 : decode cX2_takes 31 = .ok (.iaload, 1) := by decide +kernel
theorem dX2_takes_32 : decode cX2_takes 32 = .ok (.invokestatic 97, 3) := by decide +kernel
theorem dX2_takes_35 : decode cX2_takes 35 = .ok (.istore_n 3, 1) := by decide +kernel
theorem dX2_takes_36 : decode cX2_takes 36 = .ok (.aload_n 0, 1) := by decide +kernel
theorem dX2_takes_37 : decode cX2_takes 37 = .ok (.getfield 42, 3) := by decide +kernel
theorem dX2_takes_40 : decode cX2_takes 40 = .ok (.aload_n 0, 1) := by decide +kernel
theorem dX2_takes_41 : decode cX2_takes 41 = .ok (.getfield 101, 3) := by decide +kernel
theorem dX2_takes_44 : decode cX2_takes 44 = .ok (.iload_n 2, 1) := by decide +kernel
theorem dX2_takes_45 : decode cX2_takes 45 = .ok (.iastore, 1) := by decide +kernel
theorem dX2_takes_46 : decode cX2_takes 46 = .ok (.aload_n 0, 1) := by decide +kernel
theorem dX2_takes_47 : decode cX2_takes 47 = .ok (.getfield 45, 3) := by decide +kernel
theorem dX2_takes_50 : decode cX2_takes 50 = .ok (.aload_n 0, 1) := by decide +kernel
theorem dX2_takes_51 : decode cX2_takes 51 = .ok (.getfield 101, 3) := by decide +kernel
theorem dX2_takes_54 : decode cX2_takes 54 = .ok (.iload_n 1, 1) := by decide +kernel
theorem dX2_takes_55 : decode cX2_takes 55 = .ok (.iastore, 1) := by decide +kernel
theorem dX2_takes_56 : decode cX2_takes 56 = .ok (.aload_n 0, 1) := by decide +kernel
theorem dX2_takes_57 : decode cX2_takes 57 = .ok (.getfield 48, 3) := by decide +kernel
theorem dX2_takes_60 : decode cX2_takes 60 = .ok (.aload_n 0, 1) := by decide +kernel
theorem dX2_takes_61 : decode cX2_takes 61 = .ok (.getfield 101, 3) := by decide +kernel
theorem dX2_takes_64 : decode cX2_takes 64 = .ok (.iload_n 3, 1) := by decide +kernel
theorem dX2_takes_65 : decode cX2_takes 65 = .ok (.iastore, 1) := by decide +kernel
theorem dX2_takes_66 : decode cX2_takes 66 = .ok (.aload_n 0, 1) := by decide +kernel
theorem dX2_takes_67 : decode cX2_takes 67 = .ok (.getfield 51, 3) := by decide +kernel
theorem dX2_takes_70 : decode cX2_takes 70 = .ok (.aload_n 0, 1) := by decide +kernel
theorem dX2_takes_71 : decode cX2_takes 71 = .ok (.getfield 101, 3) := by decide +kernel
theorem dX2_takes_74 : decode cX2_takes 74 = .ok (.aload_n 0, 1) := by decide +kernel
theorem dX2_takes_75 : decode cX2_takes 75 = .ok (.getfield 16, 3) := by decide +kernel
theorem dX2_takes_78 : decode cX2_takes 78 = .ok (.iload_n 2, 1) := by decide +kernel
theorem dX2_takes_79 : decode cX2_takes 79 = .ok (.iaload, 1) := by decide +kernel
theorem dX2_takes_80 : decode cX2_takes 80 = .ok (.aload_n 0, 1) := by decide +kernel
theorem dX2_takes_81 : decode cX2_takes 81 = .ok (.getfield 16, 3) := by decide +kernel
theorem dX2_takes_84 : decode cX2_takes 84 = .ok (.iload_n 1, 1) := by decide +kernel
theorem dX2_takes_85 : decode cX2_takes 85 = .ok (.iaload, 1) := by decide +kernel
theorem dX2_takes_86 : decode cX2_takes 86 = .ok (.iadd, 1) := by decide +kernel
theorem dX2_takes_87 : decode cX2_takes 87 = .ok (.iconst 2, 1) := by decide +kernel
theorem dX2_takes_88 : decode cX2_takes 88 = .ok (.idiv, 1) := by decide +kernel
theorem dX2_takes_89 : decode cX2_takes 89 = .ok (.iastore, 1) := by decide +kernel
theorem dX2_takes_90 : decode cX2_takes 90 = .ok (.aload_n 0, 1) := by decide +kernel
theorem dX2_takes_91 : decode cX2_takes 91 = .ok (.dup, 1) := by decide +kernel
theorem dX2_takes_92 : decode cX2_takes 92 = .ok (.getfield 101, 3) := by decide +kernel
theorem dX2_takes_95 : decode cX2_takes 95 = .ok (.iconst 1, 1) := by decide +kernel
theorem dX2_takes_96 : decode cX2_takes 96 = .ok (.iadd, 1) := by decide +kernel
theorem dX2_takes_97 : decode cX2_takes 97 = .ok (.putfield 101, 3) := by decide +kernel
theorem dX2_takes_100 : decode cX2_takes 100 = .ok (.aload_n 0, 1) := by decide +kernel
theorem dX2_takes_101 : decode cX2_takes 101 = .ok (.getfield 60, 3) := by decide +kernel
theorem dX2_takes_104 : decode cX2_takes 104 = .ok (.iload_n 1, 1) := by decide +kernel
theorem dX2_takes_105 : decode cX2_takes 105 = .ok (.dup2, 1) := by decide +kernel
theorem dX2_takes_106 : decode cX2_takes 106 = .ok (.iaload, 1) := by decide +kernel
theorem dX2_takes_107 : decode cX2_takes 107 = .ok (.iload_n 3, 1) := by decide +kernel
theorem dX2_takes_108 : decode cX2_takes 108 = .ok (.isub, 1) := by decide +kernel
theorem dX2_takes_109 : decode cX2_takes 109 = .ok (.iastore, 1) := by decide +kernel
theorem dX2_takes_110 : decode cX2_takes 110 = .ok (.aload_n 0, 1) := by decide +kernel
theorem dX2_takes_111 : decode cX2_takes 111 = .ok (.getfield 60, 3) := by decide +kernel
theorem dX2_takes_114 : decode cX2_takes 114 = .ok (.iload_n 2, 1) := by decide +kernel
theorem dX2_takes_115 : decode cX2_takes 115 = .ok (.dup2, 1) := by decide +kernel
theorem dX2_takes_116 : decode cX2_takes 116 = .ok (.iaload, 1) := by decide +kernel
theorem dX2_takes_117 : decode cX2_takes 117 = .ok (.iload_n 3, 1) := by decide +kernel
theorem dX2_takes_118 : decode cX2_takes 118 = .ok (.isub, 1) := by decide +kernel
theorem dX2_takes_119 : decode cX2_takes 119 = .ok (.iastore, 1) := by decide +kernel
theorem dX2_takes_120 : decode cX2_takes 120 = .ok (.aload_n 0, 1) := by decide +kernel
theorem dX2_takes_121 : decode cX2_takes 121 = .ok (.iload_n 1, 1) := by decide +kernel
theorem dX2_takes_122 : decode cX2_takes 122 = .ok (.invokevirtual 94, 3) := by decide +kernel
theorem dX2_takes_125 : decode cX2_takes 125 = .ok (.istore_n 2, 1) := by decide +kernel
theorem dX2_takes_126 : decode cX2_takes 126 = .ok (.goto (-120), 3) := by decide +kernel
theorem dX2_takes_129 : decode cX2_takes 129 = .ok (.return_, 1) := by decide +kernel
set_option maxRecDepth 20000 in
theorem ggX2_over_X2_lesser : GoodIn wsX2_over wsX2_lesser := goodIn_r _ [6] (by decide +kernel) (by decide +kernel)
set_option maxRecDepth 20000 in
theorem gX2_over_X2_lesser : GoodIn wsX2_over (va_wsS RX2 97 yX2_lesser wsX2_lesser) := goodIn_app (goodIn_of _ (by decide +kernel)) ggX2_over_X2_lesser
theorem dX2_over_0 : decode cX2_over 0 = .ok (.aload_n 0, 1) := by decide +kernel
theorem dX2_over_1 : decode cX2_over 1 = .ok (.getfield 42, 3) := by decide +kernel
theorem dX2_over_4 : decode cX2_over 4 = .ok (.iload_n 1, 1) := by decide +kernel
theorem dX2_over_5 : decode cX2_over 5 = .ok (.iaload, 1) := by decide +kernel
theorem dX2_over_6 : decode cX2_over 6 = .ok (.aload_n 0, 1) := by decide +kernel
theorem dX2_over_7 : decode cX2_over 7 = .ok (.getfield 45, 3) := by decide +kernel
theorem dX2_over_10 : decode cX2_over 10 = .ok (.iload_n 1, 1) := by decide +kernel
theorem dX2_over_11 : decode cX2_over 11 = .ok (.iaload, 1) := by decide +kernel
theorem dX2_over_12 : decode cX2_over 12 = .ok (.invokestatic 97, 3) := by decide +kernel
theorem dX2_over_15 : decode cX2_over 15 = .ok (.istore_n 3, 1) := by decide +kernel
theorem dX2_over_16 : decode cX2_over 16 = .ok (.aload_n 0, 1) := by decide +kernel
theorem dX2_over_17 : decode cX2_over 17 = .ok (.getfield 42, 3) := by decide +kernel
theorem dX2_over_20 : decode cX2_over 20 = .ok (.iload_n 1, 1) := by decide +kernel
theorem dX2_over_21 : decode cX2_over 21 = .ok (.iaload, 1) := by decide +kernel
theorem dX2_over_22 : decode cX2_over 22 = .ok (.aload_n 0, 1) := by decide +kernel
theorem dX2_over_23 : decode cX2_over 23 = .ok (.getfield 45, 3) := by decide +kernel
theorem dX2_over_26 : decode cX2_over 26 = .ok (.iload_n 1, 1) := by decide +kernel
theorem dX2_over_27 : decode cX2_over 27 = .ok (.iaload, 1) := by decide +kernel
theorem dX2_over_28 : decode cX2_over 28 = .ok (.iadd, 1) := by decide +kernel
theorem dX2_over_29 : decode cX2_over 29 = .ok (.iload_n 3, 1) := by decide +kernel
theorem dX2_over_30 : decode cX2_over 30 = .ok (.isub, 1) := by decide +kernel
theorem dX2_over_31 : decode cX2_over 31 = .ok (.istore 4, 2) := by decide +kernel
theorem dX2_over_33 : decode cX2_over 33 = .ok (.iload_n 2, 1) := by decide +kernel
theorem dX2_over_34 : decode cX2_over 34 = .ok (.iload_n 3, 1) := by decide +kernel
theorem dX2_over_35 : decode cX2_over 35 = .ok (.if_icmp .lt 9, 3) := by decide +kernel
theorem dX2_over_38 : decode cX2_over 38 = .ok (.iload_n 2, 1) := by decide +kernel
theorem dX2_over_39 : decode cX2_over 39 = .ok (.iload 4, 2) := by decide +kernel
theorem dX2_over_41 : decode cX2_over 41 = .ok (.if_icmp .lt 7, 3) := by decide +kernel
theorem dX2_over_44 : decode cX2_over 44 = .ok (.iconst 0, 1) := by decide +kernel
theorem dX2_over_45 : decode cX2_over 45 = .ok (.goto 18, 3) := by decide +kernel
theorem dX2_over_48 : decode cX2_over 48 = .ok (.aload_n 0, 1) := by decide +kernel
theorem dX2_over_49 : decode cX2_over 49 = .ok (.getfield 42, 3) := by decide +kernel
theorem dX2_over_52 : decode cX2_over 52 = .ok (.iload_n 1, 1) := by decide +kernel
theorem dX2_over_53 : decode cX2_over 53 = .ok (.iaload, 1) := by decide +kernel
theorem dX2_over_54 : decode cX2_over 54 = .ok (.iload_n 3, 1) := by decide +kernel
theorem dX2_over_55 : decode cX2_over 55 = .ok (.if_icmp .ne 7, 3) := by decide +kernel
theorem dX2_over_58 : decode cX2_over 58 = .ok (.iconst 1, 1) := by decide +kernel
theorem dX2_over_59 : decode cX2_over 59 = .ok (.goto 4, 3) := by decide +kernel
theorem dX2_over_62 : decode cX2_over 62 = .ok (.iconst (-1), 1) := by decide +kernel
theorem dX2_over_63 : decode cX2_over 63 = .ok (.ireturn, 1) := by decide +kernel
set_option maxRecDepth 20000 in
theorem ggX2_flowOver_X2_over : GoodIn wsX2_flowOver wsX2_over := goodIn_r _ [7, 8, 9, 10, 11, 6, 12, 13, 14, 15, 16, 17, 18, 19, 20, 21, 22, 23, 24, 25, 26, 27, 28, 29, 30, 31, 32, 33, 34] (by decide +kernel) (by decide +kernel)
set_option maxRecDepth 20000 in
theorem gX2_flowOver_X2_over : GoodIn wsX2_flowOver (wsV RX2 104 RX2 yX2_over wsX2_over) := goodIn_app (goodIn_of _ (by decide +kernel)) ggX2_flowOver_X2_over
theorem dX2_flowOver_0 : decode cX2_flowOver 0 = .ok (.iconst 0, 1) := by decide +kernel
theorem dX2_flowOver_1 : decode cX2_flowOver 1 = .ok (.istore_n 2, 1) := by decide +kernel
theorem dX2_flowOver_2 : decode cX2_flowOver 2 = .ok (.iconst 0, 1) := by decide +kernel
theorem dX2_flowOver_3 : decode cX2_flowOver 3 = .ok (.istore_n 3, 1) := by decide +kernel
theorem dX2_flowOver_4 : decode cX2_flowOver 4 = .ok (.iload_n 3, 1) := by decide +kernel
theorem dX2_flowOver_5 : decode cX2_flowOver 5 = .ok (.aload_n 0, 1) := by decide +kernel
theorem dX2_flowOver_6 : decode cX2_flowOver 6 = .ok (.getfield 101, 3) := by decide +kernel
theorem dX2_flowOver_9 : decode cX2_flowOver 9 = .ok (.if_icmp .ge 25, 3) := by decide +kernel
theorem dX2_flowOver_12 : decode cX2_flowOver 12 = .ok (.iload_n 2, 1) := by decide +kernel
theorem dX2_flowOver_13 : decode cX2_flowOver 13 = .ok (.aload_n 0, 1) := by decide +kernel
theorem dX2_flowOver_14 : decode cX2_flowOver 14 = .ok (.iload_n 3, 1) := by decide +kernel
theorem dX2_flowOver_15 : decode cX2_flowOver 15 = .ok (.iload_n 1, 1) := by decide +kernel
theorem dX2_flowOver_16 : decode cX2_flowOver 16 = .ok (.invokevirtual 104, 3) := by decide +kernel
theorem dX2_flowOver_19 : decode cX2_flowOver 19 = .ok (.aload_n 0, 1) := by decide +kernel
theorem dX2_flowOver_20 : decode cX2_flowOver 20 = .ok (.getfield 48, 3) := by decide +kernel
theorem dX2_flowOver_23 : decode cX2_flowOver 23 = .ok (.iload_n 3, 1) := by decide +kernel
theorem dX2_flowOver_24 : decode cX2_flowOver 24 = .ok (.iaload, 1) := by decide +kernel
theorem dX2_flowOver_25 : decode cX2_flowOver 25 = .ok (.imul, 1) := by decide +kernel
theorem dX2_flowOver_26 : decode cX2_flowOver 26 = .ok (.iadd, 1) := by decide +kernel
theorem dX2_flowOver_27 : decode cX2_flowOver 27 = .ok (.istore_n 2, 1) := by decide +kernel
theorem dX2_flowOver_28 : decode cX2_flowOver 28 = .ok (.iinc 3 1, 3) := by decide +kernel
theorem dX2_flowOver_31 : decode cX2_flowOver 31 = .ok (.goto (-27), 3) := by decide +kernel
theorem dX2_flowOver_34 : decode cX2_flowOver 34 = .ok (.iload_n 2, 1) := by decide +kernel
theorem dX2_flowOver_35 : decode cX2_flowOver 35 = .ok (.ireturn, 1) := by decide +kernel
set_option maxRecDepth 20000 in
theorem ggX2_cuts_X2_flowOver : GoodIn wsX2_cuts wsX2_flowOver := goodIn_r _ [13, 2, 3, 14, 15, 16, 12, 17, 5, 6, 18, 19, 20, 24, 25, 26, 27, 28, 29, 30, 31, 32, 33, 34, 35, 36, 37, 38, 39, 40, 41, 42, 43, 44, 45] (by decide +kernel) (by decide +kernel)
set_option maxRecDepth 20000 in
theorem gX2_cuts_X2_flowOver : GoodIn wsX2_cuts (wsV RX2 107 RX2 yX2_flowOver wsX2_flowOver) := goodIn_app (goodIn_of _ (by decide +kernel)) ggX2_cuts_X2_flowOver
set_option maxRecDepth 20000 in
theorem ggX2_cuts_X2_size : GoodIn wsX2_cuts wsX2_size := goodIn_r _ [23] (by decide +kernel) (by decide +kernel)
set_option maxRecDepth 20000 in
theorem gX2_cuts_X2_size : GoodIn wsX2_cuts (va_wsS RX2 90 yX2_size wsX2_size) := goodIn_app (goodIn_of _ (by decide +kernel)) ggX2_cuts_X2_size
set_option maxRecDepth 20000 in
theorem ggX2_cuts_X2_over : GoodIn wsX2_cuts wsX2_over := goodIn_r _ [17, 5, 6, 18, 19, 12, 20, 24, 25, 26, 27, 28, 29, 30, 31, 32, 33, 34, 35, 36, 37, 38, 39, 40, 41, 42, 43, 44, 45] (by decide +kernel) (by decide +kernel)
set_option maxRecDepth 20000 in
theorem gX2_cuts_X2_over : GoodIn wsX2_cuts (wsV RX2 104 RX2 yX2_over wsX2_over) := goodIn_app (goodIn_of _ (by decide +kernel)) ggX2_cuts_X2_over
set_option maxRecDepth 20000 in
theorem ggX2_cuts_X2_lesser : GoodIn wsX2_cuts wsX2_lesser := goodIn_r _ [20] (by decide +kernel) (by decide +kernel)
set_option maxRecDepth 20000 in
theorem gX2_cuts_X2_lesser : GoodIn wsX2_cuts (va_wsS RX2 97 yX2_lesser wsX2_lesser) := goodIn_app (goodIn_of _ (by decide +kernel)) ggX2_cuts_X2_lesser
theorem dX2_cuts_0 : decode cX2_cuts 0 = .ok (.iconst 0, 1) := by decide +kernel
theorem dX2_cuts_1 : decode cX2_cuts 1 = .ok (.istore_n 2, 1) := by decide +kernel
theorem dX2_cuts_2 : decode cX2_cuts 2 = .ok (.aload_n 0, 1) := by decide +kernel
theorem dX2_cuts_3 : decode cX2_cuts 3 = .ok (.iload_n 1, 1) := by decide +kernel
theorem dX2_cuts_4 : decode cX2_cuts 4 = .ok (.invokevirtual 107, 3) := by decide +kernel
theorem dX2_cuts_7 : decode cX2_cuts 7 = .ok (.invokestatic 90, 3) := by decide +kernel
theorem dX2_cuts_10 : decode cX2_cuts 10 = .ok (.aload_n 0, 1) := by decide +kernel
theorem dX2_cuts_11 : decode cX2_cuts 11 = .ok (.getfield 19, 3) := by decide +kernel
theorem dX2_cuts_14 : decode cX2_cuts 14 = .ok (.iload_n 1, 1) := by decide +kernel
theorem dX2_cuts_15 : decode cX2_cuts 15 = .ok (.iaload, 1) := by decide +kernel
theorem dX2_cuts_16 : decode cX2_cuts 16 = .ok (.if_icmp .le 173, 3) := by decide +kernel
theorem dX2_cuts_19 : decode cX2_cuts 19 = .ok (.aload_n 0, 1) := by decide +kernel
theorem dX2_cuts_20 : decode cX2_cuts 20 = .ok (.iload_n 1, 1) := by decide +kernel
theorem dX2_cuts_21 : decode cX2_cuts 21 = .ok (.invokevirtual 107, 3) := by decide +kernel
theorem dX2_cuts_24 : decode cX2_cuts 24 = .ok (.istore_n 3, 1) := by decide +kernel
theorem dX2_cuts_25 : decode cX2_cuts 25 = .ok (.iconst (-1), 1) := by decide +kernel
theorem dX2_cuts_26 : decode cX2_cuts 26 = .ok (.istore 4, 2) := by decide +kernel
theorem dX2_cuts_28 : decode cX2_cuts 28 = .ok (.iconst 0, 1) := by decide +kernel
theorem dX2_cuts_29 : decode cX2_cuts 29 = .ok (.istore 5, 2) := by decide +kernel
theorem dX2_cuts_31 : decode cX2_cuts 31 = .ok (.iload 5, 2) := by decide +kernel
theorem dX2_cuts_33 : decode cX2_cuts 33 = .ok (.aload_n 0, 1) := by decide +kernel
theorem dX2_cuts_34 : decode cX2_cuts 34 = .ok (.getfield 101, 3) := by decide +kernel
theorem dX2_cuts_37 : decode cX2_cuts 37 = .ok (.if_icmp .ge 47, 3) := by decide +kernel
theorem dX2_cuts_40 : decode cX2_cuts 40 = .ok (.aload_n 0, 1) := by decide +kernel
theorem dX2_cuts_41 : decode cX2_cuts 41 = .ok (.getfield 48, 3) := by decide +kernel
theorem dX2_cuts_44 : decode cX2_cuts 44 = .ok (.iload 5, 2) := by decide +kernel
theorem dX2_cuts_46 : decode cX2_cuts 46 = .ok (.iaload, 1) := by decide +kernel
theorem dX2_cuts_47 : decode cX2_cuts 47 = .ok (.ifCond .le 27, 3) := by decide +kernel
theorem dX2_cuts_50 : decode cX2_cuts 50 = .ok (.aload_n 0, 1) := by decide +kernel
theorem dX2_cuts_51 : decode cX2_cuts 51 = .ok (.iload 5, 2) := by decide +kernel
theorem dX2_cuts_53 : decode cX2_cuts 53 = .ok (.iload_n 1, 1) := by decide +kernel
theorem dX2_cuts_54 : decode cX2_cuts 54 = .ok (.invokevirtual 104, 3) := by decide +kernel
theorem dX2_cuts_57 : decode cX2_cuts 57 = .ok (.iload_n 3, 1) := by decide +kernel
theorem dX2_cuts_58 : decode cX2_cuts 58 = .ok (.ifCond .le 7, 3) := by decide +kernel
theorem dX2_cuts_61 : decode cX2_cuts 61 = .ok (.iconst 1, 1) := by decide +kernel
theorem dX2_cuts_62 : decode cX2_cuts 62 = .ok (.goto 4, 3) := by decide +kernel
theorem dX2_cuts_65 : decode cX2_cuts 65 = .ok (.iconst (-1), 1) := by decide +kernel
theorem dX2_cuts_66 : decode cX2_cuts 66 = .ok (.if_icmp .ne 8, 3) := by decide +kernel
theorem dX2_cuts_69 : decode cX2_cuts 69 = .ok (.iload 5, 2) := by decide +kernel
theorem dX2_cuts_71 : decode cX2_cuts 71 = .ok (.goto 5, 3) := by decide +kernel
theorem dX2_cuts_74 : decode cX2_cuts 74 = .ok (.iload 4, 2) := by decide +kernel
theorem dX2_cuts_76 : decode cX2_cuts 76 = .ok (.istore 4, 2) := by decide +kernel
theorem dX2_cuts_78 : decode cX2_cuts 78 = .ok (.iinc 5 1, 3) := by decide +kernel
theorem dX2_cuts_81 : decode cX2_cuts 81 = .ok (.goto (-50), 3) := by decide +kernel
theorem dX2_cuts_84 : decode cX2_cuts 84 = .ok (.aload_n 0, 1) := by decide +kernel
theorem dX2_cuts_85 : decode cX2_cuts 85 = .ok (.getfield 48, 3) := by decide +kernel
theorem dX2_cuts_88 : decode cX2_cuts 88 = .ok (.iload 4, 2) := by decide +kernel
theorem dX2_cuts_90 : decode cX2_cuts 90 = .ok (.iaload, 1) := by decide +kernel
theorem dX2_cuts_91 : decode cX2_cuts 91 = .ok (.iload_n 3, 1) := by decide +kernel
theorem dX2_cuts_92 : decode cX2_cuts 92 = .ok (.invokestatic 90, 3) := by decide +kernel
theorem dX2_cuts_95 : decode cX2_cuts 95 = .ok (.aload_n 0, 1) := by decide +kernel
theorem dX2_cuts_96 : decode cX2_cuts 96 = .ok (.getfield 19, 3) := by decide +kernel
theorem dX2_cuts_99 : decode cX2_cuts 99 = .ok (.iload_n 1, 1) := by decide +kernel
theorem dX2_cuts_100 : decode cX2_cuts 100 = .ok (.iaload, 1) := by decide +kernel
theorem dX2_cuts_101 : decode cX2_cuts 101 = .ok (.isub, 1) := by decide +kernel
theorem dX2_cuts_102 : decode cX2_cuts 102 = .ok (.invokestatic 97, 3) := by decide +kernel
theorem dX2_cuts_105 : decode cX2_cuts 105 = .ok (.istore 5, 2) := by decide +kernel
theorem dX2_cuts_107 : decode cX2_cuts 107 = .ok (.aload_n 0, 1) := by decide +kernel
theorem dX2_cuts_108 : decode cX2_cuts 108 = .ok (.getfield 48, 3) := by decide +kernel
theorem dX2_cuts_111 : decode cX2_cuts 111 = .ok (.iload 4, 2) := by decide +kernel
theorem dX2_cuts_113 : decode cX2_cuts 113 = .ok (.dup2, 1) := by decide +kernel
theorem dX2_cuts_114 : decode cX2_cuts 114 = .ok (.iaload, 1) := by decide +kernel
theorem dX2_cuts_115 : decode cX2_cuts 115 = .ok (.iload 5, 2) := by decide +kernel
theorem dX2_cuts_117 : decode cX2_cuts 117 = .ok (.isub, 1) := by decide +kernel
theorem dX2_cuts_118 : decode cX2_cuts 118 = .ok (.iastore, 1) := by decide +kernel
theorem dX2_cuts_119 : decode cX2_cuts 119 = .ok (.aload_n 0, 1) := by decide +kernel
theorem dX2_cuts_120 : decode cX2_cuts 120 = .ok (.getfield 60, 3) := by decide +kernel
theorem dX2_cuts_123 : decode cX2_cuts 123 = .ok (.aload_n 0, 1) := by decide +kernel
theorem dX2_cuts_124 : decode cX2_cuts 124 = .ok (.getfield 42, 3) := by decide +kernel
theorem dX2_cuts_127 : decode cX2_cuts 127 = .ok (.iload 4, 2) := by decide +kernel
theorem dX2_cuts_129 : decode cX2_cuts 129 = .ok (.iaload, 1) := by decide +kernel
theorem dX2_cuts_130 : decode cX2_cuts 130 = .ok (.dup2, 1) := by decide +kernel
theorem dX2_cuts_131 : decode cX2_cuts 131 = .ok (.iaload, 1) := by decide +kernel
theorem dX2_cuts_132 : decode cX2_cuts 132 = .ok (.iload 5, 2) := by decide +kernel
theorem dX2_cuts_134 : decode cX2_cuts 134 = .ok (.iadd, 1) := by decide +kernel
theorem dX2_cuts_135 : decode cX2_cuts 135 = .ok (.iastore, 1) := by decide +kernel
theorem dX2_cuts_136 : decode cX2_cuts 136 = .ok (.aload_n 0, 1) := by decide +kernel
theorem dX2_cuts_137 : decode cX2_cuts 137 = .ok (.getfield 60, 3) := by decide +kernel
theorem dX2_cuts_140 : decode cX2_cuts 140 = .ok (.aload_n 0, 1) := by decide +kernel
theorem dX2_cuts_141 : decode cX2_cuts 141 = .ok (.getfield 45, 3) := by decide +kernel
theorem dX2_cuts_144 : decode cX2_cuts 144 = .ok (.iload 4, 2) := by decide +kernel
theorem dX2_cuts_146 : decode cX2_cuts 146 = .ok (.iaload, 1) := by decide +kernel
theorem dX2_cuts_147 : decode cX2_cuts 147 = .ok (.dup2, 1) := by decide +kernel
theorem dX2_cuts_148 : decode cX2_cuts 148 = .ok (.iaload, 1) := by decide +kernel
theorem dX2_cuts_149 : decode cX2_cuts 149 = .ok (.iload 5, 2) := by decide +kernel
theorem dX2_cuts_151 : decode cX2_cuts 151 = .ok (.iadd, 1) := by decide +kernel
theorem dX2_cuts_152 : decode cX2_cuts 152 = .ok (.iastore, 1) := by decide +kernel
theorem dX2_cuts_153 : decode cX2_cuts 153 = .ok (.aload_n 0, 1) := by decide +kernel
theorem dX2_cuts_154 : decode cX2_cuts 154 = .ok (.getfield 28, 3) := by decide +kernel
theorem dX2_cuts_157 : decode cX2_cuts 157 = .ok (.aload_n 0, 1) := by decide +kernel
theorem dX2_cuts_158 : decode cX2_cuts 158 = .ok (.getfield 42, 3) := by decide +kernel
theorem dX2_cuts_161 : decode cX2_cuts 161 = .ok (.iload 4, 2) := by decide +kernel
theorem dX2_cuts_163 : decode cX2_cuts 163 = .ok (.iaload, 1) := by decide +kernel
theorem dX2_cuts_164 : decode cX2_cuts 164 = .ok (.dup2, 1) := by decide +kernel
theorem dX2_cuts_165 : decode cX2_cuts 165 = .ok (.iaload, 1) := by decide +kernel
theorem dX2_cuts_166 : decode cX2_cuts 166 = .ok (.iload 5, 2) := by decide +kernel
theorem dX2_cuts_168 : decode cX2_cuts 168 = .ok (.isub, 1) := by decide +kernel
theorem dX2_cuts_169 : decode cX2_cuts 169 = .ok (.iastore, 1) := by decide +kernel
theorem dX2_cuts_170 : decode cX2_cuts 170 = .ok (.aload_n 0, 1) := by decide +kernel
theorem dX2_cuts_171 : decode cX2_cuts 171 = .ok (.dup, 1) := by decide +kernel
theorem dX2_cuts_172 : decode cX2_cuts 172 = .ok (.getfield 81, 3) := by decide +kernel
theorem dX2_cuts_175 : decode cX2_cuts 175 = .ok (.iload 5, 2) := by decide +kernel
theorem dX2_cuts_177 : decode cX2_cuts 177 = .ok (.isub, 1) := by decide +kernel
theorem dX2_cuts_178 : decode cX2_cuts 178 = .ok (.putfield 81, 3) := by decide +kernel
theorem dX2_cuts_181 : decode cX2_cuts 181 = .ok (.iload_n 2, 1) := by decide +kernel
theorem dX2_cuts_182 : decode cX2_cuts 182 = .ok (.iload 5, 2) := by decide +kernel
theorem dX2_cuts_184 : decode cX2_cuts 184 = .ok (.iadd, 1) := by decide +kernel
theorem dX2_cuts_185 : decode cX2_cuts 185 = .ok (.istore_n 2, 1) := by decide +kernel
theorem dX2_cuts_186 : decode cX2_cuts 186 = .ok (.goto (-184), 3) := by decide +kernel
theorem dX2_cuts_189 : decode cX2_cuts 189 = .ok (.iload_n 2, 1) := by decide +kernel
theorem dX2_cuts_190 : decode cX2_cuts 190 = .ok (.ireturn, 1) := by decide +kernel
set_option maxRecDepth 20000 in
theorem ggX2_keeps_X2_lesser : GoodIn wsX2_keeps wsX2_lesser := goodIn_r _ [11] (by decide +kernel) (by decide +kernel)
set_option maxRecDepth 20000 in
theorem gX2_keeps_X2_lesser : GoodIn wsX2_keeps (va_wsS RX2 97 yX2_lesser wsX2_lesser) := goodIn_app (goodIn_of _ (by decide +kernel)) ggX2_keeps_X2_lesser
theorem dX2_keeps_0 : decode cX2_keeps 0 = .ok (.aload_n 0, 1) := by decide +kernel
theorem dX2_keeps_1 : decode cX2_keeps 1 = .ok (.getfield 60, 3) := by decide +kernel
theorem dX2_keeps_4 : decode cX2_keeps 4 = .ok (.iload_n 1, 1) := by decide +kernel
theorem dX2_keeps_5 : decode cX2_keeps 5 = .ok (.iaload, 1) := by decide +kernel
theorem dX2_keeps_6 : decode cX2_keeps 6 = .ok (.aload_n 0, 1) := by decide +kernel
theorem dX2_keeps_7 : decode cX2_keeps 7 = .ok (.getfield 22, 3) := by decide +kernel
theorem dX2_keeps_10 : decode cX2_keeps 10 = .ok (.iload_n 1, 1) := by decide +kernel
theorem dX2_keeps_11 : decode cX2_keeps 11 = .ok (.iaload, 1) := by decide +kernel
theorem dX2_keeps_12 : decode cX2_keeps 12 = .ok (.aload_n 0, 1) := by decide +kernel
theorem dX2_keeps_13 : decode cX2_keeps 13 = .ok (.getfield 25, 3) := by decide +kernel
theorem dX2_keeps_16 : decode cX2_keeps 16 = .ok (.iload_n 1, 1) := by decide +kernel
theorem dX2_keeps_17 : decode cX2_keeps 17 = .ok (.iaload, 1) := by decide +kernel
theorem dX2_keeps_18 : decode cX2_keeps 18 = .ok (.isub, 1) := by decide +kernel
theorem dX2_keeps_19 : decode cX2_keeps 19 = .ok (.invokestatic 97, 3) := by decide +kernel
theorem dX2_keeps_22 : decode cX2_keeps 22 = .ok (.istore_n 2, 1) := by decide +kernel
theorem dX2_keeps_23 : decode cX2_keeps 23 = .ok (.aload_n 0, 1) := by decide +kernel
theorem dX2_keeps_24 : decode cX2_keeps 24 = .ok (.getfield 25, 3) := by decide +kernel
theorem dX2_keeps_27 : decode cX2_keeps 27 = .ok (.iload_n 1, 1) := by decide +kernel
theorem dX2_keeps_28 : decode cX2_keeps 28 = .ok (.dup2, 1) := by decide +kernel
theorem dX2_keeps_29 : decode cX2_keeps 29 = .ok (.iaload, 1) := by decide +kernel
theorem dX2_keeps_30 : decode cX2_keeps 30 = .ok (.iload_n 2, 1) := by decide +kernel
theorem dX2_keeps_31 : decode cX2_keeps 31 = .ok (.iadd, 1) := by decide +kernel
theorem dX2_keeps_32 : decode cX2_keeps 32 = .ok (.iastore, 1) := by decide +kernel
theorem dX2_keeps_33 : decode cX2_keeps 33 = .ok (.aload_n 0, 1) := by decide +kernel
theorem dX2_keeps_34 : decode cX2_keeps 34 = .ok (.getfield 60, 3) := by decide +kernel
theorem dX2_keeps_37 : decode cX2_keeps 37 = .ok (.iload_n 1, 1) := by decide +kernel
theorem dX2_keeps_38 : decode cX2_keeps 38 = .ok (.dup2, 1) := by decide +kernel
theorem dX2_keeps_39 : decode cX2_keeps 39 = .ok (.iaload, 1) := by decide +kernel
theorem dX2_keeps_40 : decode cX2_keeps 40 = .ok (.iload_n 2, 1) := by decide +kernel
theorem dX2_keeps_41 : decode cX2_keeps 41 = .ok (.isub, 1) := by decide +kernel
theorem dX2_keeps_42 : decode cX2_keeps 42 = .ok (.iastore, 1) := by decide +kernel
theorem dX2_keeps_43 : decode cX2_keeps 43 = .ok (.aload_n 0, 1) := by decide +kernel
theorem dX2_keeps_44 : decode cX2_keeps 44 = .ok (.getfield 54, 3) := by decide +kernel
theorem dX2_keeps_47 : decode cX2_keeps 47 = .ok (.iconst 2, 1) := by decide +kernel
theorem dX2_keeps_48 : decode cX2_keeps 48 = .ok (.dup2, 1) := by decide +kernel
theorem dX2_keeps_49 : decode cX2_keeps 49 = .ok (.iaload, 1) := by decide +kernel
theorem dX2_keeps_50 : decode cX2_keeps 50 = .ok (.iload_n 2, 1) := by decide +kernel
theorem dX2_keeps_51 : decode cX2_keeps 51 = .ok (.iadd, 1) := by decide +kernel
theorem dX2_keeps_52 : decode cX2_keeps 52 = .ok (.iastore, 1) := by decide +kernel
theorem dX2_keeps_53 : decode cX2_keeps 53 = .ok (.aload_n 0, 1) := by decide +kernel
theorem dX2_keeps_54 : decode cX2_keeps 54 = .ok (.getfield 54, 3) := by decide +kernel
theorem dX2_keeps_57 : decode cX2_keeps 57 = .ok (.iconst 5, 1) := by decide +kernel
theorem dX2_keeps_58 : decode cX2_keeps 58 = .ok (.dup2, 1) := by decide +kernel
theorem dX2_keeps_59 : decode cX2_keeps 59 = .ok (.iaload, 1) := by decide +kernel
theorem dX2_keeps_60 : decode cX2_keeps 60 = .ok (.aload_n 0, 1) := by decide +kernel
theorem dX2_keeps_61 : decode cX2_keeps 61 = .ok (.getfield 60, 3) := by decide +kernel
theorem dX2_keeps_64 : decode cX2_keeps 64 = .ok (.iload_n 1, 1) := by decide +kernel
theorem dX2_keeps_65 : decode cX2_keeps 65 = .ok (.iaload, 1) := by decide +kernel
theorem dX2_keeps_66 : decode cX2_keeps 66 = .ok (.iadd, 1) := by decide +kernel
theorem dX2_keeps_67 : decode cX2_keeps 67 = .ok (.iastore, 1) := by decide +kernel
theorem dX2_keeps_68 : decode cX2_keeps 68 = .ok (.aload_n 0, 1) := by decide +kernel
theorem dX2_keeps_69 : decode cX2_keeps 69 = .ok (.getfield 28, 3) := by decide +kernel
theorem dX2_keeps_72 : decode cX2_keeps 72 = .ok (.iload_n 1, 1) := by decide +kernel
theorem dX2_keeps_73 : decode cX2_keeps 73 = .ok (.dup2, 1) := by decide +kernel
theorem dX2_keeps_74 : decode cX2_keeps 74 = .ok (.iaload, 1) := by decide +kernel
theorem dX2_keeps_75 : decode cX2_keeps 75 = .ok (.aload_n 0, 1) := by decide +kernel
theorem dX2_keeps_76 : decode cX2_keeps 76 = .ok (.getfield 60, 3) := by decide +kernel
theorem dX2_keeps_79 : decode cX2_keeps 79 = .ok (.iload_n 1, 1) := by decide +kernel
theorem dX2_keeps_80 : decode cX2_keeps 80 = .ok (.iaload, 1) := by decide +kernel
theorem dX2_keeps_81 : decode cX2_keeps 81 = .ok (.aload_n 0, 1) := by decide +kernel
theorem dX2_keeps_82 : decode cX2_keeps 82 = .ok (.getfield 39, 3) := by decide +kernel
theorem dX2_keeps_85 : decode cX2_keeps 85 = .ok (.imul, 1) := by decide +kernel
theorem dX2_keeps_86 : decode cX2_keeps 86 = .ok (.isub, 1) := by decide +kernel
theorem dX2_keeps_87 : decode cX2_keeps 87 = .ok (.iastore, 1) := by decide +kernel
theorem dX2_keeps_88 : decode cX2_keeps 88 = .ok (.aload_n 0, 1) := by decide +kernel
theorem dX2_keeps_89 : decode cX2_keeps 89 = .ok (.dup, 1) := by decide +kernel
theorem dX2_keeps_90 : decode cX2_keeps 90 = .ok (.getfield 110, 3) := by decide +kernel
theorem dX2_keeps_93 : decode cX2_keeps 93 = .ok (.aload_n 0, 1) := by decide +kernel
theorem dX2_keeps_94 : decode cX2_keeps 94 = .ok (.getfield 60, 3) := by decide +kernel
theorem dX2_keeps_97 : decode cX2_keeps 97 = .ok (.iload_n 1, 1) := by decide +kernel
theorem dX2_keeps_98 : decode cX2_keeps 98 = .ok (.iaload, 1) := by decide +kernel
theorem dX2_keeps_99 : decode cX2_keeps 99 = .ok (.aload_n 0, 1) := by decide +kernel
theorem dX2_keeps_100 : decode cX2_keeps 100 = .ok (.getfield 39, 3) := by decide +kernel
theorem dX2_keeps_103 : decode cX2_keeps 103 = .ok (.imul, 1) := by decide +kernel
theorem dX2_keeps_104 : decode cX2_keeps 104 = .ok (.isub, 1) := by decide +kernel
theorem dX2_keeps_105 : decode cX2_keeps 105 = .ok (.putfield 110, 3) := by decide +kernel
theorem dX2_keeps_108 : decode cX2_keeps 108 = .ok (.return_, 1) := by decide +kernel
set_option maxRecDepth 20000 in
theorem ggX2_draws_X2_lesser : GoodIn wsX2_draws wsX2_lesser := goodIn_r _ [12] (by decide +kernel) (by decide +kernel)
set_option maxRecDepth 20000 in
theorem gX2_draws_X2_lesser : GoodIn wsX2_draws (va_wsS RX2 97 yX2_lesser wsX2_lesser) := goodIn_app (goodIn_of _ (by decide +kernel)) ggX2_draws_X2_lesser
theorem dX2_draws_0 : decode cX2_draws 0 = .ok (.aload_n 0, 1) := by decide +kernel
theorem dX2_draws_1 : decode cX2_draws 1 = .ok (.getfield 60, 3) := by decide +kernel
theorem dX2_draws_4 : decode cX2_draws 4 = .ok (.iload_n 1, 1) := by decide +kernel
theorem dX2_draws_5 : decode cX2_draws 5 = .ok (.iaload, 1) := by decide +kernel
theorem dX2_draws_6 : decode cX2_draws 6 = .ok (.aload_n 0, 1) := by decide +kernel
theorem dX2_draws_7 : decode cX2_draws 7 = .ok (.getfield 25, 3) := by decide +kernel
theorem dX2_draws_10 : decode cX2_draws 10 = .ok (.iload_n 1, 1) := by decide +kernel
theorem dX2_draws_11 : decode cX2_draws 11 = .ok (.iaload, 1) := by decide +kernel
theorem dX2_draws_12 : decode cX2_draws 12 = .ok (.invokestatic 97, 3) := by decide +kernel
theorem dX2_draws_15 : decode cX2_draws 15 = .ok (.istore_n 2, 1) := by decide +kernel
theorem dX2_draws_16 : decode cX2_draws 16 = .ok (.aload_n 0, 1) := by decide +kernel
theorem dX2_draws_17 : decode cX2_draws 17 = .ok (.getfield 25, 3) := by decide +kernel
theorem dX2_draws_20 : decode cX2_draws 20 = .ok (.iload_n 1, 1) := by decide +kernel
theorem dX2_draws_21 : decode cX2_draws 21 = .ok (.dup2, 1) := by decide +kernel
theorem dX2_draws_22 : decode cX2_draws 22 = .ok (.iaload, 1) := by decide +kernel
theorem dX2_draws_23 : decode cX2_draws 23 = .ok (.iload_n 2, 1) := by decide +kernel
theorem dX2_draws_24 : decode cX2_draws 24 = .ok (.isub, 1) := by decide +kernel
theorem dX2_draws_25 : decode cX2_draws 25 = .ok (.iastore, 1) := by decide +kernel
theorem dX2_draws_26 : decode cX2_draws 26 = .ok (.aload_n 0, 1) := by decide +kernel
theorem dX2_draws_27 : decode cX2_draws 27 = .ok (.getfield 60, 3) := by decide +kernel
theorem dX2_draws_30 : decode cX2_draws 30 = .ok (.iload_n 1, 1) := by decide +kernel
theorem dX2_draws_31 : decode cX2_draws 31 = .ok (.dup2, 1) := by decide +kernel
theorem dX2_draws_32 : decode cX2_draws 32 = .ok (.iaload, 1) := by decide +kernel
theorem dX2_draws_33 : decode cX2_draws 33 = .ok (.iload_n 2, 1) := by decide +kernel
theorem dX2_draws_34 : decode cX2_draws 34 = .ok (.isub, 1) := by decide +kernel
theorem dX2_draws_35 : decode cX2_draws 35 = .ok (.iastore, 1) := by decide +kernel
theorem dX2_draws_36 : decode cX2_draws 36 = .ok (.aload_n 0, 1) := by decide +kernel
theorem dX2_draws_37 : decode cX2_draws 37 = .ok (.getfield 22, 3) := by decide +kernel
theorem dX2_draws_40 : decode cX2_draws 40 = .ok (.iload_n 1, 1) := by decide +kernel
theorem dX2_draws_41 : decode cX2_draws 41 = .ok (.iaload, 1) := by decide +kernel
theorem dX2_draws_42 : decode cX2_draws 42 = .ok (.iconst 4, 1) := by decide +kernel
theorem dX2_draws_43 : decode cX2_draws 43 = .ok (.idiv, 1) := by decide +kernel
theorem dX2_draws_44 : decode cX2_draws 44 = .ok (.aload_n 0, 1) := by decide +kernel
theorem dX2_draws_45 : decode cX2_draws 45 = .ok (.getfield 25, 3) := by decide +kernel
theorem dX2_draws_48 : decode cX2_draws 48 = .ok (.iload_n 1, 1) := by decide +kernel
theorem dX2_draws_49 : decode cX2_draws 49 = .ok (.iaload, 1) := by decide +kernel
theorem dX2_draws_50 : decode cX2_draws 50 = .ok (.isub, 1) := by decide +kernel
theorem dX2_draws_51 : decode cX2_draws 51 = .ok (.istore_n 3, 1) := by decide +kernel
theorem dX2_draws_52 : decode cX2_draws 52 = .ok (.iload_n 2, 1) := by decide +kernel
theorem dX2_draws_53 : decode cX2_draws 53 = .ok (.ifCond .ne 7, 3) := by decide +kernel
theorem dX2_draws_56 : decode cX2_draws 56 = .ok (.iconst 0, 1) := by decide +kernel
theorem dX2_draws_57 : decode cX2_draws 57 = .ok (.goto 16, 3) := by decide +kernel
theorem dX2_draws_60 : decode cX2_draws 60 = .ok (.iconst 2, 1) := by decide +kernel
theorem dX2_draws_61 : decode cX2_draws 61 = .ok (.iload_n 2, 1) := by decide +kernel
theorem dX2_draws_62 : decode cX2_draws 62 = .ok (.imul, 1) := by decide +kernel
theorem dX2_draws_63 : decode cX2_draws 63 = .ok (.iload_n 3, 1) := by decide +kernel
theorem dX2_draws_64 : decode cX2_draws 64 = .ok (.ifCond .le 7, 3) := by decide +kernel
theorem dX2_draws_67 : decode cX2_draws 67 = .ok (.iload_n 3, 1) := by decide +kernel
theorem dX2_draws_68 : decode cX2_draws 68 = .ok (.goto 4, 3) := by decide +kernel
theorem dX2_draws_71 : decode cX2_draws 71 = .ok (.iconst 0, 1) := by decide +kernel
theorem dX2_draws_72 : decode cX2_draws 72 = .ok (.iadd, 1) := by decide +kernel
theorem dX2_draws_73 : decode cX2_draws 73 = .ok (.istore 4, 2) := by decide +kernel
theorem dX2_draws_75 : decode cX2_draws 75 = .ok (.aload_n 0, 1) := by decide +kernel
theorem dX2_draws_76 : decode cX2_draws 76 = .ok (.getfield 28, 3) := by decide +kernel
theorem dX2_draws_79 : decode cX2_draws 79 = .ok (.iload_n 1, 1) := by decide +kernel
theorem dX2_draws_80 : decode cX2_draws 80 = .ok (.dup2, 1) := by decide +kernel
theorem dX2_draws_81 : decode cX2_draws 81 = .ok (.iaload, 1) := by decide +kernel
theorem dX2_draws_82 : decode cX2_draws 82 = .ok (.iload 4, 2) := by decide +kernel
theorem dX2_draws_84 : decode cX2_draws 84 = .ok (.iadd, 1) := by decide +kernel
theorem dX2_draws_85 : decode cX2_draws 85 = .ok (.iastore, 1) := by decide +kernel
theorem dX2_draws_86 : decode cX2_draws 86 = .ok (.aload_n 0, 1) := by decide +kernel
theorem dX2_draws_87 : decode cX2_draws 87 = .ok (.dup, 1) := by decide +kernel
theorem dX2_draws_88 : decode cX2_draws 88 = .ok (.getfield 81, 3) := by decide +kernel
theorem dX2_draws_91 : decode cX2_draws 91 = .ok (.iload 4, 2) := by decide +kernel
theorem dX2_draws_93 : decode cX2_draws 93 = .ok (.iadd, 1) := by decide +kernel
theorem dX2_draws_94 : decode cX2_draws 94 = .ok (.putfield 81, 3) := by decide +kernel
theorem dX2_draws_97 : decode cX2_draws 97 = .ok (.aload_n 0, 1) := by decide +kernel
theorem dX2_draws_98 : decode cX2_draws 98 = .ok (.getfield 54, 3) := by decide +kernel
theorem dX2_draws_101 : decode cX2_draws 101 = .ok (.iconst 3, 1) := by decide +kernel
theorem dX2_draws_102 : decode cX2_draws 102 = .ok (.dup2, 1) := by decide +kernel
theorem dX2_draws_103 : decode cX2_draws 103 = .ok (.iaload, 1) := by decide +kernel
theorem dX2_draws_104 : decode cX2_draws 104 = .ok (.iload_n 2, 1) := by decide +kernel
theorem dX2_draws_105 : decode cX2_draws 105 = .ok (.iadd, 1) := by decide +kernel
theorem dX2_draws_106 : decode cX2_draws 106 = .ok (.iastore, 1) := by decide +kernel
theorem dX2_draws_107 : decode cX2_draws 107 = .ok (.aload_n 0, 1) := by decide +kernel
theorem dX2_draws_108 : decode cX2_draws 108 = .ok (.getfield 54, 3) := by decide +kernel
theorem dX2_draws_111 : decode cX2_draws 111 = .ok (.iconst 4, 1) := by decide +kernel
theorem dX2_draws_112 : decode cX2_draws 112 = .ok (.dup2, 1) := by decide +kernel
theorem dX2_draws_113 : decode cX2_draws 113 = .ok (.iaload, 1) := by decide +kernel
theorem dX2_draws_114 : decode cX2_draws 114 = .ok (.aload_n 0, 1) := by decide +kernel
theorem dX2_draws_115 : decode cX2_draws 115 = .ok (.getfield 60, 3) := by decide +kernel
theorem dX2_draws_118 : decode cX2_draws 118 = .ok (.iload_n 1, 1) := by decide +kernel
theorem dX2_draws_119 : decode cX2_draws 119 = .ok (.iaload, 1) := by decide +kernel
theorem dX2_draws_120 : decode cX2_draws 120 = .ok (.iadd, 1) := by decide +kernel
theorem dX2_draws_121 : decode cX2_draws 121 = .ok (.iastore, 1) := by decide +kernel
theorem dX2_draws_122 : decode cX2_draws 122 = .ok (.aload_n 0, 1) := by decide +kernel
theorem dX2_draws_123 : decode cX2_draws 123 = .ok (.getfield 28, 3) := by decide +kernel
theorem dX2_draws_126 : decode cX2_draws 126 = .ok (.iload_n 1, 1) := by decide +kernel
theorem dX2_draws_127 : decode cX2_draws 127 = .ok (.dup2, 1) := by decide +kernel
theorem dX2_draws_128 : decode cX2_draws 128 = .ok (.iaload, 1) := by decide +kernel
theorem dX2_draws_129 : decode cX2_draws 129 = .ok (.aload_n 0, 1) := by decide +kernel
theorem dX2_draws_130 : decode cX2_draws 130 = .ok (.getfield 60, 3) := by decide +kernel
theorem dX2_draws_133 : decode cX2_draws 133 = .ok (.iload_n 1, 1) := by decide +kernel
theorem dX2_draws_134 : decode cX2_draws 134 = .ok (.iaload, 1) := by decide +kernel
theorem dX2_draws_135 : decode cX2_draws 135 = .ok (.aload_n 0, 1) := by decide +kernel
theorem dX2_draws_136 : decode cX2_draws 136 = .ok (.getfield 35, 3) := by decide +kernel
theorem dX2_draws_139 : decode cX2_draws 139 = .ok (.imul, 1) := by decide +kernel
theorem dX2_draws_140 : decode cX2_draws 140 = .ok (.iadd, 1) := by decide +kernel
theorem dX2_draws_141 : decode cX2_draws 141 = .ok (.iastore, 1) := by decide +kernel
theorem dX2_draws_142 : decode cX2_draws 142 = .ok (.aload_n 0, 1) := by decide +kernel
theorem dX2_draws_143 : decode cX2_draws 143 = .ok (.dup, 1) := by decide +kernel
theorem dX2_draws_144 : decode cX2_draws 144 = .ok (.getfield 110, 3) := by decide +kernel
theorem dX2_draws_147 : decode cX2_draws 147 = .ok (.aload_n 0, 1) := by decide +kernel
theorem dX2_draws_148 : decode cX2_draws 148 = .ok (.getfield 60, 3) := by decide +kernel
theorem dX2_draws_151 : decode cX2_draws 151 = .ok (.iload_n 1, 1) := by decide +kernel
theorem dX2_draws_152 : decode cX2_draws 152 = .ok (.iaload, 1) := by decide +kernel
theorem dX2_draws_153 : decode cX2_draws 153 = .ok (.aload_n 0, 1) := by decide +kernel
theorem dX2_draws_154 : decode cX2_draws 154 = .ok (.getfield 35, 3) := by decide +kernel
theorem dX2_draws_157 : decode cX2_draws 157 = .ok (.imul, 1) := by decide +kernel
theorem dX2_draws_158 : decode cX2_draws 158 = .ok (.iadd, 1) := by decide +kernel
theorem dX2_draws_159 : decode cX2_draws 159 = .ok (.putfield 110, 3) := by decide +kernel
theorem dX2_draws_162 : decode cX2_draws 162 = .ok (.return_, 1) := by decide +kernel
set_option maxRecDepth 20000 in
theorem ggX2_clear_X2_goes : GoodIn wsX2_clear wsX2_goes := goodIn_r _ [19, 20, 74, 75, 76, 77, 78, 79, 80, 81, 82, 83, 84, 85, 86, 87, 88, 89, 90, 91, 92, 93, 94, 95] (by decide +kernel) (by decide +kernel)
set_option maxRecDepth 20000 in
theorem gX2_clear_X2_goes : GoodIn wsX2_clear (wsV RX2 77 RX2 yX2_goes wsX2_goes) := goodIn_app (goodIn_of _ (by decide +kernel)) ggX2_clear_X2_goes
set_option maxRecDepth 20000 in
theorem ggX2_clear_X2_size : GoodIn wsX2_clear wsX2_size := goodIn_r _ [23] (by decide +kernel) (by decide +kernel)
set_option maxRecDepth 20000 in
theorem gX2_clear_X2_size : GoodIn wsX2_clear (va_wsS RX2 90 yX2_size wsX2_size) := goodIn_app (goodIn_of _ (by decide +kernel)) ggX2_clear_X2_size
set_option maxRecDepth 20000 in
theorem ggX2_clear_X2_isBuyer : GoodIn wsX2_clear wsX2_isBuyer := goodIn_r _ [27, 5, 6, 74, 75, 76, 77, 78, 79, 80, 81, 82, 83, 84, 85, 86, 87, 88, 89, 90, 91, 92, 93, 94, 95] (by decide +kernel) (by decide +kernel)
set_option maxRecDepth 20000 in
theorem gX2_clear_X2_isBuyer : GoodIn wsX2_clear (wsV RX2 84 RX2 yX2_isBuyer wsX2_isBuyer) := goodIn_app (goodIn_of _ (by decide +kernel)) ggX2_clear_X2_isBuyer
set_option maxRecDepth 20000 in
theorem ggX2_clear_X2_turnOf : GoodIn wsX2_clear wsX2_turnOf := goodIn_r _ [31, 32, 24, 25, 26, 18, 27, 5, 6, 74, 75, 76, 77, 78, 79, 80, 81, 82, 83, 84, 85, 86, 87, 88, 89, 90, 91, 92, 93, 94, 95] (by decide +kernel) (by decide +kernel)
set_option maxRecDepth 20000 in
theorem gX2_clear_X2_turnOf : GoodIn wsX2_clear (wsV RX2 116 RX2 yX2_turnOf wsX2_turnOf) := goodIn_app (goodIn_of _ (by decide +kernel)) ggX2_clear_X2_turnOf
set_option maxRecDepth 20000 in
theorem ggX2_clear_X2_takes : GoodIn wsX2_clear wsX2_takes := goodIn_r _ [36, 4, 11, 2, 8, 9, 10, 32, 37, 38, 39, 18, 40, 41, 42, 43, 44, 5, 6, 21, 22, 23, 45, 46, 47, 74, 75, 76, 77, 78, 79, 80, 81, 82, 83, 84, 85, 86, 87, 88, 89, 90, 91, 92, 93, 94, 95] (by decide +kernel) (by decide +kernel)
set_option maxRecDepth 20000 in
theorem gX2_clear_X2_takes : GoodIn wsX2_clear (wsV RX2 119 RX2 yX2_takes wsX2_takes) := goodIn_app (goodIn_of _ (by decide +kernel)) ggX2_clear_X2_takes
set_option maxRecDepth 20000 in
theorem ggX2_clear_X2_cuts : GoodIn wsX2_clear wsX2_cuts := goodIn_r _ [51, 52, 2, 9, 4, 11, 8, 7, 13, 53, 54, 55, 18, 56, 57, 58, 59, 60, 45, 46, 47, 21, 22, 23, 74, 75, 76, 77, 78, 79, 80, 81, 82, 83, 84, 85, 86, 87, 88, 89, 90, 91, 92, 93, 94, 95] (by decide +kernel) (by decide +kernel)
set_option maxRecDepth 20000 in
theorem gX2_clear_X2_cuts : GoodIn wsX2_clear (wsV RX2 123 RX2 yX2_cuts wsX2_cuts) := goodIn_app (goodIn_of _ (by decide +kernel)) ggX2_clear_X2_cuts
set_option maxRecDepth 20000 in
theorem ggX2_clear_X2_isSeller : GoodIn wsX2_clear wsX2_isSeller := goodIn_r _ [44, 5, 6, 74, 75, 76, 77, 78, 79, 80, 81, 82, 83, 84, 85, 86, 87, 88, 89, 90, 91, 92, 93, 94, 95] (by decide +kernel) (by decide +kernel)
set_option maxRecDepth 20000 in
theorem gX2_clear_X2_isSeller : GoodIn wsX2_clear (wsV RX2 87 RX2 yX2_isSeller wsX2_isSeller) := goodIn_app (goodIn_of _ (by decide +kernel)) ggX2_clear_X2_isSeller
set_option maxRecDepth 20000 in
theorem ggX2_clear_X2_keeps : GoodIn wsX2_clear wsX2_keeps := goodIn_r _ [64, 4, 65, 66, 3, 7, 67, 68, 45, 46, 18, 47, 74, 75, 76, 77, 78, 79, 80, 81, 82, 83, 84, 85, 86, 87, 88, 89, 90, 91, 92, 93, 94, 95] (by decide +kernel) (by decide +kernel)
set_option maxRecDepth 20000 in
theorem gX2_clear_X2_keeps : GoodIn wsX2_clear (wsV RX2 126 RX2 yX2_keeps wsX2_keeps) := goodIn_app (goodIn_of _ (by decide +kernel)) ggX2_clear_X2_keeps
set_option maxRecDepth 20000 in
theorem ggX2_clear_X2_draws : GoodIn wsX2_clear wsX2_draws := goodIn_r _ [72, 4, 66, 65, 7, 13, 3, 73, 68, 45, 46, 18, 47, 74, 75, 76, 77, 78, 79, 80, 81, 82, 83, 84, 85, 86, 87, 88, 89, 90, 91, 92, 93, 94, 95] (by decide +kernel) (by decide +kernel)
set_option maxRecDepth 20000 in
theorem gX2_clear_X2_draws : GoodIn wsX2_clear (wsV RX2 129 RX2 yX2_draws wsX2_draws) := goodIn_app (goodIn_of _ (by decide +kernel)) ggX2_clear_X2_draws
set_option maxRecDepth 20000 in
theorem ggX2_clear_X2_flowOver : GoodIn wsX2_clear wsX2_flowOver := goodIn_r _ [56, 2, 9, 57, 58, 59, 18, 60, 11, 8, 45, 46, 47, 74, 75, 76, 77, 78, 79, 80, 81, 82, 83, 84, 85, 86, 87, 88, 89, 90, 91, 92, 93, 94, 95] (by decide +kernel) (by decide +kernel)
set_option maxRecDepth 20000 in
theorem gX2_clear_X2_flowOver : GoodIn wsX2_clear (wsV RX2 107 RX2 yX2_flowOver wsX2_flowOver) := goodIn_app (goodIn_of _ (by decide +kernel)) ggX2_clear_X2_flowOver
theorem dX2_clear_0 : decode cX2_clear 0 = .ok (.aload_n 0, 1) := by decide +kernel
theorem dX2_clear_1 : decode cX2_clear 1 = .ok (.aload_n 0, 1) := by decide +kernel
theorem dX2_clear_2 : decode cX2_clear 2 = .ok (.getfield 113, 3) := by decide +kernel
theorem dX2_clear_5 : decode cX2_clear 5 = .ok (.sipush 500, 3) := by decide +kernel
theorem dX2_clear_8 : decode cX2_clear 8 = .ok (.if_icmp .ge 7, 3) := by decide +kernel
theorem dX2_clear_11 : decode cX2_clear 11 = .ok (.iconst 1, 1) := by decide +kernel
theorem dX2_clear_12 : decode cX2_clear 12 = .ok (.goto 4, 3) := by decide +kernel
theorem dX2_clear_15 : decode cX2_clear 15 = .ok (.iconst 0, 1) := by decide +kernel
theorem dX2_clear_16 : decode cX2_clear 16 = .ok (.iconst 1, 1) := by decide +kernel
theorem dX2_clear_17 : decode cX2_clear 17 = .ok (.iconst 1, 1) := by decide +kernel
theorem dX2_clear_18 : decode cX2_clear 18 = .ok (.invokevirtual 77, 3) := by decide +kernel
theorem dX2_clear_21 : decode cX2_clear 21 = .ok (.ifCond .ne 5, 3) := by decide +kernel
theorem dX2_clear_24 : decode cX2_clear 24 = .ok (.iconst 0, 1) := by decide +kernel
theorem dX2_clear_25 : decode cX2_clear 25 = .ok (.ireturn, 1) := by decide +kernel
theorem dX2_clear_26 : decode cX2_clear 26 = .ok (.aload_n 0, 1) := by decide +kernel
theorem dX2_clear_27 : decode cX2_clear 27 = .ok (.iconst 0, 1) := by decide +kernel
theorem dX2_clear_28 : decode cX2_clear 28 = .ok (.putfield 101, 3) := by decide +kernel
theorem dX2_clear_31 : decode cX2_clear 31 = .ok (.iconst 0, 1) := by decide +kernel
theorem dX2_clear_32 : decode cX2_clear 32 = .ok (.istore_n 1, 1) := by decide +kernel
theorem dX2_clear_33 : decode cX2_clear 33 = .ok (.iload_n 1, 1) := by decide +kernel
theorem dX2_clear_34 : decode cX2_clear 34 = .ok (.bipush 6, 2) := by decide +kernel
theorem dX2_clear_36 : decode cX2_clear 36 = .ok (.if_icmp .ge 16, 3) := by decide +kernel
theorem dX2_clear_39 : decode cX2_clear 39 = .ok (.aload_n 0, 1) := by decide +kernel
theorem dX2_clear_40 : decode cX2_clear 40 = .ok (.getfield 54, 3) := by decide +kernel
theorem dX2_clear_43 : decode cX2_clear 43 = .ok (.iload_n 1, 1) := by decide +kernel
theorem dX2_clear_44 : decode cX2_clear 44 = .ok (.iconst 0, 1) := by decide +kernel
theorem dX2_clear_45 : decode cX2_clear 45 = .ok (.iastore, 1) := by decide +kernel
theorem dX2_clear_46 : decode cX2_clear 46 = .ok (.iinc 1 1, 3) := by decide +kernel
theorem dX2_clear_49 : decode cX2_clear 49 = .ok (.goto (-16), 3) := by decide +kernel
theorem dX2_clear_52 : decode cX2_clear 52 = .ok (.iconst 0, 1) := by decide +kernel
theorem dX2_clear_53 : decode cX2_clear 53 = .ok (.istore_n 1, 1) := by decide +kernel
theorem dX2_clear_54 : decode cX2_clear 54 = .ok (.iload_n 1, 1) := by decide +kernel
theorem dX2_clear_55 : decode cX2_clear 55 = .ok (.bipush 6, 2) := by decide +kernel
theorem dX2_clear_57 : decode cX2_clear 57 = .ok (.if_icmp .ge 37, 3) := by decide +kernel
theorem dX2_clear_60 : decode cX2_clear 60 = .ok (.aload_n 0, 1) := by decide +kernel
theorem dX2_clear_61 : decode cX2_clear 61 = .ok (.getfield 60, 3) := by decide +kernel
theorem dX2_clear_64 : decode cX2_clear 64 = .ok (.iload_n 1, 1) := by decide +kernel
theorem dX2_clear_65 : decode cX2_clear 65 = .ok (.aload_n 0, 1) := by decide +kernel
theorem dX2_clear_66 : decode cX2_clear 66 = .ok (.getfield 31, 3) := by decide +kernel
theorem dX2_clear_69 : decode cX2_clear 69 = .ok (.iload_n 1, 1) := by decide +kernel
theorem dX2_clear_70 : decode cX2_clear 70 = .ok (.baload, 1) := by decide +kernel
theorem dX2_clear_71 : decode cX2_clear 71 = .ok (.ifCond .eq 7, 3) := by decide +kernel
theorem dX2_clear_74 : decode cX2_clear 74 = .ok (.iconst 0, 1) := by decide +kernel
theorem dX2_clear_75 : decode cX2_clear 75 = .ok (.goto 12, 3) := by decide +kernel
theorem dX2_clear_78 : decode cX2_clear 78 = .ok (.aload_n 0, 1) := by decide +kernel
theorem dX2_clear_79 : decode cX2_clear 79 = .ok (.getfield 13, 3) := by decide +kernel
theorem dX2_clear_82 : decode cX2_clear 82 = .ok (.iload_n 1, 1) := by decide +kernel
theorem dX2_clear_83 : decode cX2_clear 83 = .ok (.iaload, 1) := by decide +kernel
theorem dX2_clear_84 : decode cX2_clear 84 = .ok (.invokestatic 90, 3) := by decide +kernel
theorem dX2_clear_87 : decode cX2_clear 87 = .ok (.iastore, 1) := by decide +kernel
theorem dX2_clear_88 : decode cX2_clear 88 = .ok (.iinc 1 1, 3) := by decide +kernel
theorem dX2_clear_91 : decode cX2_clear 91 = .ok (.goto (-37), 3) := by decide +kernel
theorem dX2_clear_94 : decode cX2_clear 94 = .ok (.iconst 0, 1) := by decide +kernel
theorem dX2_clear_95 : decode cX2_clear 95 = .ok (.istore_n 1, 1) := by decide +kernel
theorem dX2_clear_96 : decode cX2_clear 96 = .ok (.iload_n 1, 1) := by decide +kernel
theorem dX2_clear_97 : decode cX2_clear 97 = .ok (.bipush 6, 2) := by decide +kernel
theorem dX2_clear_99 : decode cX2_clear 99 = .ok (.if_icmp .ge 45, 3) := by decide +kernel
theorem dX2_clear_102 : decode cX2_clear 102 = .ok (.iconst 0, 1) := by decide +kernel
theorem dX2_clear_103 : decode cX2_clear 103 = .ok (.istore_n 2, 1) := by decide +kernel
theorem dX2_clear_104 : decode cX2_clear 104 = .ok (.iload_n 2, 1) := by decide +kernel
theorem dX2_clear_105 : decode cX2_clear 105 = .ok (.bipush 6, 2) := by decide +kernel
theorem dX2_clear_107 : decode cX2_clear 107 = .ok (.if_icmp .ge 31, 3) := by decide +kernel
theorem dX2_clear_110 : decode cX2_clear 110 = .ok (.aload_n 0, 1) := by decide +kernel
theorem dX2_clear_111 : decode cX2_clear 111 = .ok (.iload_n 2, 1) := by decide +kernel
theorem dX2_clear_112 : decode cX2_clear 112 = .ok (.invokevirtual 84, 3) := by decide +kernel
theorem dX2_clear_115 : decode cX2_clear 115 = .ok (.ifCond .eq 17, 3) := by decide +kernel
theorem dX2_clear_118 : decode cX2_clear 118 = .ok (.aload_n 0, 1) := by decide +kernel
theorem dX2_clear_119 : decode cX2_clear 119 = .ok (.iload_n 2, 1) := by decide +kernel
theorem dX2_clear_120 : decode cX2_clear 120 = .ok (.invokevirtual 116, 3) := by decide +kernel
theorem dX2_clear_123 : decode cX2_clear 123 = .ok (.iload_n 1, 1) := by decide +kernel
theorem dX2_clear_124 : decode cX2_clear 124 = .ok (.if_icmp .ne 8, 3) := by decide +kernel
theorem dX2_clear_127 : decode cX2_clear 127 = .ok (.aload_n 0, 1) := by decide +kernel
theorem dX2_clear_128 : decode cX2_clear 128 = .ok (.iload_n 2, 1) := by decide +kernel
theorem dX2_clear_129 : decode cX2_clear 129 = .ok (.invokevirtual 119, 3) := by decide +kernel
theorem dX2_clear_132 : decode cX2_clear 132 = .ok (.iinc 2 1, 3) := by decide +kernel
theorem dX2_clear_135 : decode cX2_clear 135 = .ok (.goto (-31), 3) := by decide +kernel
theorem dX2_clear_138 : decode cX2_clear 138 = .ok (.iinc 1 1, 3) := by decide +kernel
theorem dX2_clear_141 : decode cX2_clear 141 = .ok (.goto (-45), 3) := by decide +kernel
theorem dX2_clear_144 : decode cX2_clear 144 = .ok (.iconst 1, 1) := by decide +kernel
theorem dX2_clear_145 : decode cX2_clear 145 = .ok (.istore_n 1, 1) := by decide +kernel
theorem dX2_clear_146 : decode cX2_clear 146 = .ok (.iload_n 1, 1) := by decide +kernel
theorem dX2_clear_147 : decode cX2_clear 147 = .ok (.ifCond .le 38, 3) := by decide +kernel
theorem dX2_clear_150 : decode cX2_clear 150 = .ok (.iconst 0, 1) := by decide +kernel
theorem dX2_clear_151 : decode cX2_clear 151 = .ok (.istore_n 1, 1) := by decide +kernel
theorem dX2_clear_152 : decode cX2_clear 152 = .ok (.iconst 4, 1) := by decide +kernel
theorem dX2_clear_153 : decode cX2_clear 153 = .ok (.istore_n 2, 1) := by decide +kernel
theorem dX2_clear_154 : decode cX2_clear 154 = .ok (.iload_n 2, 1) := by decide +kernel
theorem dX2_clear_155 : decode cX2_clear 155 = .ok (.ifCond .lt 17, 3) := by decide +kernel
theorem dX2_clear_158 : decode cX2_clear 158 = .ok (.iload_n 1, 1) := by decide +kernel
theorem dX2_clear_159 : decode cX2_clear 159 = .ok (.aload_n 0, 1) := by decide +kernel
theorem dX2_clear_160 : decode cX2_clear 160 = .ok (.iload_n 2, 1) := by decide +kernel
theorem dX2_clear_161 : decode cX2_clear 161 = .ok (.invokevirtual 123, 3) := by decide +kernel
theorem dX2_clear_164 : decode cX2_clear 164 = .ok (.iadd, 1) := by decide +kernel
theorem dX2_clear_165 : decode cX2_clear 165 = .ok (.istore_n 1, 1) := by decide +kernel
theorem dX2_clear_166 : decode cX2_clear 166 = .ok (.iinc 2 (-1), 3) := by decide +kernel
theorem dX2_clear_169 : decode cX2_clear 169 = .ok (.goto (-15), 3) := by decide +kernel
theorem dX2_clear_172 : decode cX2_clear 172 = .ok (.aload_n 0, 1) := by decide +kernel
theorem dX2_clear_173 : decode cX2_clear 173 = .ok (.getfield 54, 3) := by decide +kernel
theorem dX2_clear_176 : decode cX2_clear 176 = .ok (.iconst 1, 1) := by decide +kernel
theorem dX2_clear_177 : decode cX2_clear 177 = .ok (.dup2, 1) := by decide +kernel
theorem dX2_clear_178 : decode cX2_clear 178 = .ok (.iaload, 1) := by decide +kernel
theorem dX2_clear_179 : decode cX2_clear 179 = .ok (.iload_n 1, 1) := by decide +kernel
theorem dX2_clear_180 : decode cX2_clear 180 = .ok (.iadd, 1) := by decide +kernel
theorem dX2_clear_181 : decode cX2_clear 181 = .ok (.iastore, 1) := by decide +kernel
theorem dX2_clear_182 : decode cX2_clear 182 = .ok (.goto (-36), 3) := by decide +kernel
theorem dX2_clear_185 : decode cX2_clear 185 = .ok (.iconst 0, 1) := by decide +kernel
theorem dX2_clear_186 : decode cX2_clear 186 = .ok (.istore_n 2, 1) := by decide +kernel
theorem dX2_clear_187 : decode cX2_clear 187 = .ok (.iload_n 2, 1) := by decide +kernel
theorem dX2_clear_188 : decode cX2_clear 188 = .ok (.aload_n 0, 1) := by decide +kernel
theorem dX2_clear_189 : decode cX2_clear 189 = .ok (.getfield 101, 3) := by decide +kernel
theorem dX2_clear_192 : decode cX2_clear 192 = .ok (.if_icmp .ge 78, 3) := by decide +kernel
theorem dX2_clear_195 : decode cX2_clear 195 = .ok (.aload_n 0, 1) := by decide +kernel
theorem dX2_clear_196 : decode cX2_clear 196 = .ok (.getfield 28, 3) := by decide +kernel
theorem dX2_clear_199 : decode cX2_clear 199 = .ok (.aload_n 0, 1) := by decide +kernel
theorem dX2_clear_200 : decode cX2_clear 200 = .ok (.getfield 45, 3) := by decide +kernel
theorem dX2_clear_203 : decode cX2_clear 203 = .ok (.iload_n 2, 1) := by decide +kernel
theorem dX2_clear_204 : decode cX2_clear 204 = .ok (.iaload, 1) := by decide +kernel
theorem dX2_clear_205 : decode cX2_clear 205 = .ok (.dup2, 1) := by decide +kernel
theorem dX2_clear_206 : decode cX2_clear 206 = .ok (.iaload, 1) := by decide +kernel
theorem dX2_clear_207 : decode cX2_clear 207 = .ok (.aload_n 0, 1) := by decide +kernel
theorem dX2_clear_208 : decode cX2_clear 208 = .ok (.getfield 48, 3) := by decide +kernel
theorem dX2_clear_211 : decode cX2_clear 211 = .ok (.iload_n 2, 1) := by decide +kernel
theorem dX2_clear_212 : decode cX2_clear 212 = .ok (.iaload, 1) := by decide +kernel
theorem dX2_clear_213 : decode cX2_clear 213 = .ok (.aload_n 0, 1) := by decide +kernel
theorem dX2_clear_214 : decode cX2_clear 214 = .ok (.getfield 51, 3) := by decide +kernel
theorem dX2_clear_217 : decode cX2_clear 217 = .ok (.iload_n 2, 1) := by decide +kernel
theorem dX2_clear_218 : decode cX2_clear 218 = .ok (.iaload, 1) := by decide +kernel
theorem dX2_clear_219 : decode cX2_clear 219 = .ok (.imul, 1) := by decide +kernel
theorem dX2_clear_220 : decode cX2_clear 220 = .ok (.iadd, 1) := by decide +kernel
theorem dX2_clear_221 : decode cX2_clear 221 = .ok (.iastore, 1) := by decide +kernel
theorem dX2_clear_222 : decode cX2_clear 222 = .ok (.aload_n 0, 1) := by decide +kernel
theorem dX2_clear_223 : decode cX2_clear 223 = .ok (.getfield 28, 3) := by decide +kernel
theorem dX2_clear_226 : decode cX2_clear 226 = .ok (.aload_n 0, 1) := by decide +kernel
theorem dX2_clear_227 : decode cX2_clear 227 = .ok (.getfield 42, 3) := by decide +kernel
theorem dX2_clear_230 : decode cX2_clear 230 = .ok (.iload_n 2, 1) := by decide +kernel
theorem dX2_clear_231 : decode cX2_clear 231 = .ok (.iaload, 1) := by decide +kernel
theorem dX2_clear_232 : decode cX2_clear 232 = .ok (.dup2, 1) := by decide +kernel
theorem dX2_clear_233 : decode cX2_clear 233 = .ok (.iaload, 1) := by decide +kernel
theorem dX2_clear_234 : decode cX2_clear 234 = .ok (.aload_n 0, 1) := by decide +kernel
theorem dX2_clear_235 : decode cX2_clear 235 = .ok (.getfield 48, 3) := by decide +kernel
theorem dX2_clear_238 : decode cX2_clear 238 = .ok (.iload_n 2, 1) := by decide +kernel
theorem dX2_clear_239 : decode cX2_clear 239 = .ok (.iaload, 1) := by decide +kernel
theorem dX2_clear_240 : decode cX2_clear 240 = .ok (.aload_n 0, 1) := by decide +kernel
theorem dX2_clear_241 : decode cX2_clear 241 = .ok (.getfield 51, 3) := by decide +kernel
theorem dX2_clear_244 : decode cX2_clear 244 = .ok (.iload_n 2, 1) := by decide +kernel
theorem dX2_clear_245 : decode cX2_clear 245 = .ok (.iaload, 1) := by decide +kernel
theorem dX2_clear_246 : decode cX2_clear 246 = .ok (.imul, 1) := by decide +kernel
theorem dX2_clear_247 : decode cX2_clear 247 = .ok (.isub, 1) := by decide +kernel
theorem dX2_clear_248 : decode cX2_clear 248 = .ok (.iastore, 1) := by decide +kernel
theorem dX2_clear_249 : decode cX2_clear 249 = .ok (.aload_n 0, 1) := by decide +kernel
theorem dX2_clear_250 : decode cX2_clear 250 = .ok (.getfield 54, 3) := by decide +kernel
theorem dX2_clear_253 : decode cX2_clear 253 = .ok (.iconst 0, 1) := by decide +kernel
theorem dX2_clear_254 : decode cX2_clear 254 = .ok (.dup2, 1) := by decide +kernel
theorem dX2_clear_255 : decode cX2_clear 255 = .ok (.iaload, 1) := by decide +kernel
theorem dX2_clear_256 : decode cX2_clear 256 = .ok (.aload_n 0, 1) := by decide +kernel
theorem dX2_clear_257 : decode cX2_clear 257 = .ok (.getfield 48, 3) := by decide +kernel
theorem dX2_clear_260 : decode cX2_clear 260 = .ok (.iload_n 2, 1) := by decide +kernel
theorem dX2_clear_261 : decode cX2_clear 261 = .ok (.iaload, 1) := by decide +kernel
theorem dX2_clear_262 : decode cX2_clear 262 = .ok (.iadd, 1) := by decide +kernel
theorem dX2_clear_263 : decode cX2_clear 263 = .ok (.iastore, 1) := by decide +kernel
theorem dX2_clear_264 : decode cX2_clear 264 = .ok (.iinc 2 1, 3) := by decide +kernel
theorem dX2_clear_267 : decode cX2_clear 267 = .ok (.goto (-80), 3) := by decide +kernel
theorem dX2_clear_270 : decode cX2_clear 270 = .ok (.iconst 0, 1) := by decide +kernel
theorem dX2_clear_271 : decode cX2_clear 271 = .ok (.istore_n 2, 1) := by decide +kernel
theorem dX2_clear_272 : decode cX2_clear 272 = .ok (.iload_n 2, 1) := by decide +kernel
theorem dX2_clear_273 : decode cX2_clear 273 = .ok (.bipush 6, 2) := by decide +kernel
theorem dX2_clear_275 : decode cX2_clear 275 = .ok (.if_icmp .ge 88, 3) := by decide +kernel
theorem dX2_clear_278 : decode cX2_clear 278 = .ok (.aload_n 0, 1) := by decide +kernel
theorem dX2_clear_279 : decode cX2_clear 279 = .ok (.iload_n 2, 1) := by decide +kernel
theorem dX2_clear_280 : decode cX2_clear 280 = .ok (.invokevirtual 87, 3) := by decide +kernel
theorem dX2_clear_283 : decode cX2_clear 283 = .ok (.ifCond .eq 11, 3) := by decide +kernel
theorem dX2_clear_286 : decode cX2_clear 286 = .ok (.aload_n 0, 1) := by decide +kernel
theorem dX2_clear_287 : decode cX2_clear 287 = .ok (.iload_n 2, 1) := by decide +kernel
theorem dX2_clear_288 : decode cX2_clear 288 = .ok (.invokevirtual 126, 3) := by decide +kernel
theorem dX2_clear_291 : decode cX2_clear 291 = .ok (.goto 16, 3) := by decide +kernel
theorem dX2_clear_294 : decode cX2_clear 294 = .ok (.aload_n 0, 1) := by decide +kernel
theorem dX2_clear_295 : decode cX2_clear 295 = .ok (.iload_n 2, 1) := by decide +kernel
theorem dX2_clear_296 : decode cX2_clear 296 = .ok (.invokevirtual 84, 3) := by decide +kernel
theorem dX2_clear_299 : decode cX2_clear 299 = .ok (.ifCond .eq 8, 3) := by decide +kernel
theorem dX2_clear_302 : decode cX2_clear 302 = .ok (.aload_n 0, 1) := by decide +kernel
theorem dX2_clear_303 : decode cX2_clear 303 = .ok (.iload_n 2, 1) := by decide +kernel
theorem dX2_clear_304 : decode cX2_clear 304 = .ok (.invokevirtual 129, 3) := by decide +kernel
theorem dX2_clear_307 : decode cX2_clear 307 = .ok (.aload_n 0, 1) := by decide +kernel
theorem dX2_clear_308 : decode cX2_clear 308 = .ok (.getfield 31, 3) := by decide +kernel
theorem dX2_clear_311 : decode cX2_clear 311 = .ok (.iload_n 2, 1) := by decide +kernel
theorem dX2_clear_312 : decode cX2_clear 312 = .ok (.baload, 1) := by decide +kernel
theorem dX2_clear_313 : decode cX2_clear 313 = .ok (.ifCond .eq 7, 3) := by decide +kernel
theorem dX2_clear_316 : decode cX2_clear 316 = .ok (.iconst 0, 1) := by decide +kernel
theorem dX2_clear_317 : decode cX2_clear 317 = .ok (.goto 19, 3) := by decide +kernel
theorem dX2_clear_320 : decode cX2_clear 320 = .ok (.aload_n 0, 1) := by decide +kernel
theorem dX2_clear_321 : decode cX2_clear 321 = .ok (.getfield 13, 3) := by decide +kernel
theorem dX2_clear_324 : decode cX2_clear 324 = .ok (.iload_n 2, 1) := by decide +kernel
theorem dX2_clear_325 : decode cX2_clear 325 = .ok (.iaload, 1) := by decide +kernel
theorem dX2_clear_326 : decode cX2_clear 326 = .ok (.aload_n 0, 1) := by decide +kernel
theorem dX2_clear_327 : decode cX2_clear 327 = .ok (.getfield 7, 3) := by decide +kernel
theorem dX2_clear_330 : decode cX2_clear 330 = .ok (.iload_n 2, 1) := by decide +kernel
theorem dX2_clear_331 : decode cX2_clear 331 = .ok (.iaload, 1) := by decide +kernel
theorem dX2_clear_332 : decode cX2_clear 332 = .ok (.isub, 1) := by decide +kernel
theorem dX2_clear_333 : decode cX2_clear 333 = .ok (.invokestatic 90, 3) := by decide +kernel
theorem dX2_clear_336 : decode cX2_clear 336 = .ok (.istore_n 3, 1) := by decide +kernel
theorem dX2_clear_337 : decode cX2_clear 337 = .ok (.aload_n 0, 1) := by decide +kernel
theorem dX2_clear_338 : decode cX2_clear 338 = .ok (.getfield 28, 3) := by decide +kernel
theorem dX2_clear_341 : decode cX2_clear 341 = .ok (.iload_n 2, 1) := by decide +kernel
theorem dX2_clear_342 : decode cX2_clear 342 = .ok (.dup2, 1) := by decide +kernel
theorem dX2_clear_343 : decode cX2_clear 343 = .ok (.iaload, 1) := by decide +kernel
theorem dX2_clear_344 : decode cX2_clear 344 = .ok (.iload_n 3, 1) := by decide +kernel
theorem dX2_clear_345 : decode cX2_clear 345 = .ok (.iadd, 1) := by decide +kernel
theorem dX2_clear_346 : decode cX2_clear 346 = .ok (.iastore, 1) := by decide +kernel
theorem dX2_clear_347 : decode cX2_clear 347 = .ok (.aload_n 0, 1) := by decide +kernel
theorem dX2_clear_348 : decode cX2_clear 348 = .ok (.dup, 1) := by decide +kernel
theorem dX2_clear_349 : decode cX2_clear 349 = .ok (.getfield 81, 3) := by decide +kernel
theorem dX2_clear_352 : decode cX2_clear 352 = .ok (.iload_n 3, 1) := by decide +kernel
theorem dX2_clear_353 : decode cX2_clear 353 = .ok (.iadd, 1) := by decide +kernel
theorem dX2_clear_354 : decode cX2_clear 354 = .ok (.putfield 81, 3) := by decide +kernel
theorem dX2_clear_357 : decode cX2_clear 357 = .ok (.iinc 2 1, 3) := by decide +kernel
theorem dX2_clear_360 : decode cX2_clear 360 = .ok (.goto (-88), 3) := by decide +kernel
theorem dX2_clear_363 : decode cX2_clear 363 = .ok (.iconst 0, 1) := by decide +kernel
theorem dX2_clear_364 : decode cX2_clear 364 = .ok (.istore_n 2, 1) := by decide +kernel
theorem dX2_clear_365 : decode cX2_clear 365 = .ok (.iload_n 2, 1) := by decide +kernel
theorem dX2_clear_366 : decode cX2_clear 366 = .ok (.iconst 5, 1) := by decide +kernel
theorem dX2_clear_367 : decode cX2_clear 367 = .ok (.if_icmp .ge 20, 3) := by decide +kernel
theorem dX2_clear_370 : decode cX2_clear 370 = .ok (.aload_n 0, 1) := by decide +kernel
theorem dX2_clear_371 : decode cX2_clear 371 = .ok (.getfield 57, 3) := by decide +kernel
theorem dX2_clear_374 : decode cX2_clear 374 = .ok (.iload_n 2, 1) := by decide +kernel
theorem dX2_clear_375 : decode cX2_clear 375 = .ok (.aload_n 0, 1) := by decide +kernel
theorem dX2_clear_376 : decode cX2_clear 376 = .ok (.iload_n 2, 1) := by decide +kernel
theorem dX2_clear_377 : decode cX2_clear 377 = .ok (.invokevirtual 107, 3) := by decide +kernel
theorem dX2_clear_380 : decode cX2_clear 380 = .ok (.iastore, 1) := by decide +kernel
theorem dX2_clear_381 : decode cX2_clear 381 = .ok (.iinc 2 1, 3) := by decide +kernel
theorem dX2_clear_384 : decode cX2_clear 384 = .ok (.goto (-19), 3) := by decide +kernel
theorem dX2_clear_387 : decode cX2_clear 387 = .ok (.iconst 0, 1) := by decide +kernel
theorem dX2_clear_388 : decode cX2_clear 388 = .ok (.istore_n 2, 1) := by decide +kernel
theorem dX2_clear_389 : decode cX2_clear 389 = .ok (.iload_n 2, 1) := by decide +kernel
theorem dX2_clear_390 : decode cX2_clear 390 = .ok (.bipush 6, 2) := by decide +kernel
theorem dX2_clear_392 : decode cX2_clear 392 = .ok (.if_icmp .ge 23, 3) := by decide +kernel
theorem dX2_clear_395 : decode cX2_clear 395 = .ok (.aload_n 0, 1) := by decide +kernel
theorem dX2_clear_396 : decode cX2_clear 396 = .ok (.getfield 7, 3) := by decide +kernel
theorem dX2_clear_399 : decode cX2_clear 399 = .ok (.iload_n 2, 1) := by decide +kernel
theorem dX2_clear_400 : decode cX2_clear 400 = .ok (.iconst 0, 1) := by decide +kernel
theorem dX2_clear_401 : decode cX2_clear 401 = .ok (.iastore, 1) := by decide +kernel
theorem dX2_clear_402 : decode cX2_clear 402 = .ok (.aload_n 0, 1) := by decide +kernel
theorem dX2_clear_403 : decode cX2_clear 403 = .ok (.getfield 13, 3) := by decide +kernel
theorem dX2_clear_406 : decode cX2_clear 406 = .ok (.iload_n 2, 1) := by decide +kernel
theorem dX2_clear_407 : decode cX2_clear 407 = .ok (.iconst 0, 1) := by decide +kernel
theorem dX2_clear_408 : decode cX2_clear 408 = .ok (.iastore, 1) := by decide +kernel
theorem dX2_clear_409 : decode cX2_clear 409 = .ok (.iinc 2 1, 3) := by decide +kernel
theorem dX2_clear_412 : decode cX2_clear 412 = .ok (.goto (-23), 3) := by decide +kernel
theorem dX2_clear_415 : decode cX2_clear 415 = .ok (.aload_n 0, 1) := by decide +kernel
theorem dX2_clear_416 : decode cX2_clear 416 = .ok (.dup, 1) := by decide +kernel
theorem dX2_clear_417 : decode cX2_clear 417 = .ok (.getfield 113, 3) := by decide +kernel
theorem dX2_clear_420 : decode cX2_clear 420 = .ok (.iconst 1, 1) := by decide +kernel
theorem dX2_clear_421 : decode cX2_clear 421 = .ok (.iadd, 1) := by decide +kernel
theorem dX2_clear_422 : decode cX2_clear 422 = .ok (.putfield 113, 3) := by decide +kernel
theorem dX2_clear_425 : decode cX2_clear 425 = .ok (.aload_n 0, 1) := by decide +kernel
theorem dX2_clear_426 : decode cX2_clear 426 = .ok (.getfield 54, 3) := by decide +kernel
theorem dX2_clear_429 : decode cX2_clear 429 = .ok (.iconst 0, 1) := by decide +kernel
theorem dX2_clear_430 : decode cX2_clear 430 = .ok (.iaload, 1) := by decide +kernel
theorem dX2_clear_431 : decode cX2_clear 431 = .ok (.ireturn, 1) := by decide +kernel
theorem dX2_quarter_0 : decode cX2_quarter 0 = .ok (.aload_n 0, 1) := by decide +kernel
theorem dX2_quarter_1 : decode cX2_quarter 1 = .ok (.iconst 0, 1) := by decide +kernel
theorem dX2_quarter_2 : decode cX2_quarter 2 = .ok (.putfield 63, 3) := by decide +kernel
theorem dX2_quarter_5 : decode cX2_quarter 5 = .ok (.aload_n 0, 1) := by decide +kernel
theorem dX2_quarter_6 : decode cX2_quarter 6 = .ok (.getfield 113, 3) := by decide +kernel
theorem dX2_quarter_9 : decode cX2_quarter 9 = .ok (.ireturn, 1) := by decide +kernel
set_option maxRecDepth 20000 in
theorem ggX2_tradable_X2_isBuyer : GoodIn wsX2_tradable wsX2_isBuyer := goodIn_r _ [7, 8, 2, 13, 14, 15, 16, 17, 18, 19, 20, 21, 22, 23, 24, 25, 26, 27, 28, 29, 30, 31, 32, 33, 34] (by decide +kernel) (by decide +kernel)
set_option maxRecDepth 20000 in
theorem gX2_tradable_X2_isBuyer : GoodIn wsX2_tradable (wsV RX2 84 RX2 yX2_isBuyer wsX2_isBuyer) := goodIn_app (goodIn_of _ (by decide +kernel)) ggX2_tradable_X2_isBuyer
set_option maxRecDepth 20000 in
theorem ggX2_tradable_X2_isSeller : GoodIn wsX2_tradable wsX2_isSeller := goodIn_r _ [12, 8, 2, 13, 14, 15, 16, 17, 18, 19, 20, 21, 22, 23, 24, 25, 26, 27, 28, 29, 30, 31, 32, 33, 34] (by decide +kernel) (by decide +kernel)
set_option maxRecDepth 20000 in
theorem gX2_tradable_X2_isSeller : GoodIn wsX2_tradable (wsV RX2 87 RX2 yX2_isSeller wsX2_isSeller) := goodIn_app (goodIn_of _ (by decide +kernel)) ggX2_tradable_X2_isSeller
theorem dX2_tradable_0 : decode cX2_tradable 0 = .ok (.iconst 0, 1) := by decide +kernel
theorem dX2_tradable_1 : decode cX2_tradable 1 = .ok (.istore_n 2, 1) := by decide +kernel
theorem dX2_tradable_2 : decode cX2_tradable 2 = .ok (.iconst 0, 1) := by decide +kernel
theorem dX2_tradable_3 : decode cX2_tradable 3 = .ok (.istore_n 3, 1) := by decide +kernel
theorem dX2_tradable_4 : decode cX2_tradable 4 = .ok (.iload_n 3, 1) := by decide +kernel
theorem dX2_tradable_5 : decode cX2_tradable 5 = .ok (.bipush 6, 2) := by decide +kernel
theorem dX2_tradable_7 : decode cX2_tradable 7 = .ok (.if_icmp .ge 72, 3) := by decide +kernel
theorem dX2_tradable_10 : decode cX2_tradable 10 = .ok (.iload_n 2, 1) := by decide +kernel
theorem dX2_tradable_11 : decode cX2_tradable 11 = .ok (.aload_n 0, 1) := by decide +kernel
theorem dX2_tradable_12 : decode cX2_tradable 12 = .ok (.iload_n 3, 1) := by decide +kernel
theorem dX2_tradable_13 : decode cX2_tradable 13 = .ok (.invokevirtual 84, 3) := by decide +kernel
theorem dX2_tradable_16 : decode cX2_tradable 16 = .ok (.ifCond .eq 23, 3) := by decide +kernel
theorem dX2_tradable_19 : decode cX2_tradable 19 = .ok (.aload_n 0, 1) := by decide +kernel
theorem dX2_tradable_20 : decode cX2_tradable 20 = .ok (.getfield 16, 3) := by decide +kernel
theorem dX2_tradable_23 : decode cX2_tradable 23 = .ok (.iload_n 3, 1) := by decide +kernel
theorem dX2_tradable_24 : decode cX2_tradable 24 = .ok (.iaload, 1) := by decide +kernel
theorem dX2_tradable_25 : decode cX2_tradable 25 = .ok (.iload_n 1, 1) := by decide +kernel
theorem dX2_tradable_26 : decode cX2_tradable 26 = .ok (.if_icmp .le 13, 3) := by decide +kernel
theorem dX2_tradable_29 : decode cX2_tradable 29 = .ok (.aload_n 0, 1) := by decide +kernel
theorem dX2_tradable_30 : decode cX2_tradable 30 = .ok (.getfield 13, 3) := by decide +kernel
theorem dX2_tradable_33 : decode cX2_tradable 33 = .ok (.iload_n 3, 1) := by decide +kernel
theorem dX2_tradable_34 : decode cX2_tradable 34 = .ok (.iaload, 1) := by decide +kernel
theorem dX2_tradable_35 : decode cX2_tradable 35 = .ok (.ineg, 1) := by decide +kernel
theorem dX2_tradable_36 : decode cX2_tradable 36 = .ok (.goto 4, 3) := by decide +kernel
theorem dX2_tradable_39 : decode cX2_tradable 39 = .ok (.iconst 0, 1) := by decide +kernel
theorem dX2_tradable_40 : decode cX2_tradable 40 = .ok (.iadd, 1) := by decide +kernel
theorem dX2_tradable_41 : decode cX2_tradable 41 = .ok (.istore_n 2, 1) := by decide +kernel
theorem dX2_tradable_42 : decode cX2_tradable 42 = .ok (.iload_n 2, 1) := by decide +kernel
theorem dX2_tradable_43 : decode cX2_tradable 43 = .ok (.aload_n 0, 1) := by decide +kernel
theorem dX2_tradable_44 : decode cX2_tradable 44 = .ok (.iload_n 3, 1) := by decide +kernel
theorem dX2_tradable_45 : decode cX2_tradable 45 = .ok (.invokevirtual 87, 3) := by decide +kernel
theorem dX2_tradable_48 : decode cX2_tradable 48 = .ok (.ifCond .eq 22, 3) := by decide +kernel
theorem dX2_tradable_51 : decode cX2_tradable 51 = .ok (.aload_n 0, 1) := by decide +kernel
theorem dX2_tradable_52 : decode cX2_tradable 52 = .ok (.getfield 16, 3) := by decide +kernel
theorem dX2_tradable_55 : decode cX2_tradable 55 = .ok (.iload_n 3, 1) := by decide +kernel
theorem dX2_tradable_56 : decode cX2_tradable 56 = .ok (.iaload, 1) := by decide +kernel
theorem dX2_tradable_57 : decode cX2_tradable 57 = .ok (.iload_n 1, 1) := by decide +kernel
theorem dX2_tradable_58 : decode cX2_tradable 58 = .ok (.if_icmp .gt 12, 3) := by decide +kernel
theorem dX2_tradable_61 : decode cX2_tradable 61 = .ok (.aload_n 0, 1) := by decide +kernel
theorem dX2_tradable_62 : decode cX2_tradable 62 = .ok (.getfield 13, 3) := by decide +kernel
theorem dX2_tradable_65 : decode cX2_tradable 65 = .ok (.iload_n 3, 1) := by decide +kernel
theorem dX2_tradable_66 : decode cX2_tradable 66 = .ok (.iaload, 1) := by decide +kernel
theorem dX2_tradable_67 : decode cX2_tradable 67 = .ok (.goto 4, 3) := by decide +kernel
theorem dX2_tradable_70 : decode cX2_tradable 70 = .ok (.iconst 0, 1) := by decide +kernel
theorem dX2_tradable_71 : decode cX2_tradable 71 = .ok (.iadd, 1) := by decide +kernel
theorem dX2_tradable_72 : decode cX2_tradable 72 = .ok (.istore_n 2, 1) := by decide +kernel
theorem dX2_tradable_73 : decode cX2_tradable 73 = .ok (.iinc 3 1, 3) := by decide +kernel
theorem dX2_tradable_76 : decode cX2_tradable 76 = .ok (.goto (-72), 3) := by decide +kernel
theorem dX2_tradable_79 : decode cX2_tradable 79 = .ok (.iload_n 2, 1) := by decide +kernel
theorem dX2_tradable_80 : decode cX2_tradable 80 = .ok (.ireturn, 1) := by decide +kernel
set_option maxRecDepth 20000 in
theorem ggX2_mostTradable_X2_tradable : GoodIn wsX2_mostTradable wsX2_tradable := goodIn_r _ [7, 2, 8, 9, 10, 11, 6, 12, 13, 14, 15, 16, 17, 21, 22, 23, 24, 25, 26, 27, 28, 29, 30, 31, 32, 33, 34, 35, 36, 37, 38, 39, 40, 41, 42] (by decide +kernel) (by decide +kernel)
set_option maxRecDepth 20000 in
theorem gX2_mostTradable_X2_tradable : GoodIn wsX2_mostTradable (wsV RX2 132 RX2 yX2_tradable wsX2_tradable) := goodIn_app (goodIn_of _ (by decide +kernel)) ggX2_mostTradable_X2_tradable
set_option maxRecDepth 20000 in
theorem ggX2_mostTradable_X2_isBuyer : GoodIn wsX2_mostTradable wsX2_isBuyer := goodIn_r _ [12, 13, 8, 21, 22, 23, 24, 25, 26, 27, 28, 29, 30, 31, 32, 33, 34, 35, 36, 37, 38, 39, 40, 41, 42] (by decide +kernel) (by decide +kernel)
set_option maxRecDepth 20000 in
theorem gX2_mostTradable_X2_isBuyer : GoodIn wsX2_mostTradable (wsV RX2 84 RX2 yX2_isBuyer wsX2_isBuyer) := goodIn_app (goodIn_of _ (by decide +kernel)) ggX2_mostTradable_X2_isBuyer
set_option maxRecDepth 20000 in
theorem ggX2_mostTradable_X2_lesser : GoodIn wsX2_mostTradable wsX2_lesser := goodIn_r _ [20] (by decide +kernel) (by decide +kernel)
set_option maxRecDepth 20000 in
theorem gX2_mostTradable_X2_lesser : GoodIn wsX2_mostTradable (va_wsS RX2 97 yX2_lesser wsX2_lesser) := goodIn_app (goodIn_of _ (by decide +kernel)) ggX2_mostTradable_X2_lesser
theorem dX2_mostTradable_0 : decode cX2_mostTradable 0 = .ok (.aload_n 0, 1) := by decide +kernel
theorem dX2_mostTradable_1 : decode cX2_mostTradable 1 = .ok (.iconst 0, 1) := by decide +kernel
theorem dX2_mostTradable_2 : decode cX2_mostTradable 2 = .ok (.putfield 63, 3) := by decide +kernel
theorem dX2_mostTradable_5 : decode cX2_mostTradable 5 = .ok (.aload_n 0, 1) := by decide +kernel
theorem dX2_mostTradable_6 : decode cX2_mostTradable 6 = .ok (.iconst (-1), 1) := by decide +kernel
theorem dX2_mostTradable_7 : decode cX2_mostTradable 7 = .ok (.invokevirtual 132, 3) := by decide +kernel
theorem dX2_mostTradable_10 : decode cX2_mostTradable 10 = .ok (.istore_n 1, 1) := by decide +kernel
theorem dX2_mostTradable_11 : decode cX2_mostTradable 11 = .ok (.iconst 0, 1) := by decide +kernel
theorem dX2_mostTradable_12 : decode cX2_mostTradable 12 = .ok (.istore_n 2, 1) := by decide +kernel
theorem dX2_mostTradable_13 : decode cX2_mostTradable 13 = .ok (.iload_n 2, 1) := by decide +kernel
theorem dX2_mostTradable_14 : decode cX2_mostTradable 14 = .ok (.bipush 6, 2) := by decide +kernel
theorem dX2_mostTradable_16 : decode cX2_mostTradable 16 = .ok (.if_icmp .ge 36, 3) := by decide +kernel
theorem dX2_mostTradable_19 : decode cX2_mostTradable 19 = .ok (.aload_n 0, 1) := by decide +kernel
theorem dX2_mostTradable_20 : decode cX2_mostTradable 20 = .ok (.iload_n 2, 1) := by decide +kernel
theorem dX2_mostTradable_21 : decode cX2_mostTradable 21 = .ok (.invokevirtual 84, 3) := by decide +kernel
theorem dX2_mostTradable_24 : decode cX2_mostTradable 24 = .ok (.ifCond .eq 20, 3) := by decide +kernel
theorem dX2_mostTradable_27 : decode cX2_mostTradable 27 = .ok (.iload_n 1, 1) := by decide +kernel
theorem dX2_mostTradable_28 : decode cX2_mostTradable 28 = .ok (.aload_n 0, 1) := by decide +kernel
theorem dX2_mostTradable_29 : decode cX2_mostTradable 29 = .ok (.aload_n 0, 1) := by decide +kernel
theorem dX2_mostTradable_30 : decode cX2_mostTradable 30 = .ok (.getfield 16, 3) := by decide +kernel
theorem dX2_mostTradable_33 : decode cX2_mostTradable 33 = .ok (.iload_n 2, 1) := by decide +kernel
theorem dX2_mostTradable_34 : decode cX2_mostTradable 34 = .ok (.iaload, 1) := by decide +kernel
theorem dX2_mostTradable_35 : decode cX2_mostTradable 35 = .ok (.invokevirtual 132, 3) := by decide +kernel
theorem dX2_mostTradable_38 : decode cX2_mostTradable 38 = .ok (.invokestatic 97, 3) := by decide +kernel
theorem dX2_mostTradable_41 : decode cX2_mostTradable 41 = .ok (.goto 4, 3) := by decide +kernel
theorem dX2_mostTradable_44 : decode cX2_mostTradable 44 = .ok (.iload_n 1, 1) := by decide +kernel
theorem dX2_mostTradable_45 : decode cX2_mostTradable 45 = .ok (.istore_n 1, 1) := by decide +kernel
theorem dX2_mostTradable_46 : decode cX2_mostTradable 46 = .ok (.iinc 2 1, 3) := by decide +kernel
theorem dX2_mostTradable_49 : decode cX2_mostTradable 49 = .ok (.goto (-36), 3) := by decide +kernel
theorem dX2_mostTradable_52 : decode cX2_mostTradable 52 = .ok (.iload_n 1, 1) := by decide +kernel
theorem dX2_mostTradable_53 : decode cX2_mostTradable 53 = .ok (.ireturn, 1) := by decide +kernel
theorem dX2_trades_0 : decode cX2_trades 0 = .ok (.aload_n 0, 1) := by decide +kernel
theorem dX2_trades_1 : decode cX2_trades 1 = .ok (.iconst 0, 1) := by decide +kernel
theorem dX2_trades_2 : decode cX2_trades 2 = .ok (.putfield 63, 3) := by decide +kernel
theorem dX2_trades_5 : decode cX2_trades 5 = .ok (.aload_n 0, 1) := by decide +kernel
theorem dX2_trades_6 : decode cX2_trades 6 = .ok (.getfield 101, 3) := by decide +kernel
theorem dX2_trades_9 : decode cX2_trades 9 = .ok (.ireturn, 1) := by decide +kernel
set_option maxRecDepth 20000 in
theorem ggX2_ofTrade_X2_in : GoodIn wsX2_ofTrade wsX2_in := goodIn_r _ [9] (by decide +kernel) (by decide +kernel)
set_option maxRecDepth 20000 in
theorem gX2_ofTrade_X2_in : GoodIn wsX2_ofTrade (va_wsS RX2 66 yX2_in wsX2_in) := goodIn_app (goodIn_of _ (by decide +kernel)) ggX2_ofTrade_X2_in
set_option maxRecDepth 20000 in
theorem ggX2_ofTrade_X2_goes : GoodIn wsX2_ofTrade wsX2_goes := goodIn_r _ [13, 14, 15, 16, 17, 18, 19, 20, 21, 22, 23, 24, 25, 26, 27, 28, 29, 30, 31, 32, 33, 34, 35, 36] (by decide +kernel) (by decide +kernel)
set_option maxRecDepth 20000 in
theorem gX2_ofTrade_X2_goes : GoodIn wsX2_ofTrade (wsV RX2 77 RX2 yX2_goes wsX2_goes) := goodIn_app (goodIn_of _ (by decide +kernel)) ggX2_ofTrade_X2_goes
theorem dX2_ofTrade_0 : decode cX2_ofTrade 0 = .ok (.aload_n 0, 1) := by decide +kernel
theorem dX2_ofTrade_1 : decode cX2_ofTrade 1 = .ok (.iload_n 1, 1) := by decide +kernel
theorem dX2_ofTrade_2 : decode cX2_ofTrade 2 = .ok (.iconst 0, 1) := by decide +kernel
theorem dX2_ofTrade_3 : decode cX2_ofTrade 3 = .ok (.aload_n 0, 1) := by decide +kernel
theorem dX2_ofTrade_4 : decode cX2_ofTrade 4 = .ok (.getfield 101, 3) := by decide +kernel
theorem dX2_ofTrade_7 : decode cX2_ofTrade 7 = .ok (.iconst 1, 1) := by decide +kernel
theorem dX2_ofTrade_8 : decode cX2_ofTrade 8 = .ok (.isub, 1) := by decide +kernel
theorem dX2_ofTrade_9 : decode cX2_ofTrade 9 = .ok (.invokestatic 66, 3) := by decide +kernel
theorem dX2_ofTrade_12 : decode cX2_ofTrade 12 = .ok (.ifCond .eq 16, 3) := by decide +kernel
theorem dX2_ofTrade_15 : decode cX2_ofTrade 15 = .ok (.iload_n 2, 1) := by decide +kernel
theorem dX2_ofTrade_16 : decode cX2_ofTrade 16 = .ok (.iconst 0, 1) := by decide +kernel
theorem dX2_ofTrade_17 : decode cX2_ofTrade 17 = .ok (.iconst 3, 1) := by decide +kernel
theorem dX2_ofTrade_18 : decode cX2_ofTrade 18 = .ok (.invokestatic 66, 3) := by decide +kernel
theorem dX2_ofTrade_21 : decode cX2_ofTrade 21 = .ok (.ifCond .eq 7, 3) := by decide +kernel
theorem dX2_ofTrade_24 : decode cX2_ofTrade 24 = .ok (.iconst 1, 1) := by decide +kernel
theorem dX2_ofTrade_25 : decode cX2_ofTrade 25 = .ok (.goto 4, 3) := by decide +kernel
theorem dX2_ofTrade_28 : decode cX2_ofTrade 28 = .ok (.iconst 0, 1) := by decide +kernel
theorem dX2_ofTrade_29 : decode cX2_ofTrade 29 = .ok (.iconst 1, 1) := by decide +kernel
theorem dX2_ofTrade_30 : decode cX2_ofTrade 30 = .ok (.iconst 1, 1) := by decide +kernel
theorem dX2_ofTrade_31 : decode cX2_ofTrade 31 = .ok (.invokevirtual 77, 3) := by decide +kernel
theorem dX2_ofTrade_34 : decode cX2_ofTrade 34 = .ok (.ifCond .ne 5, 3) := by decide +kernel
theorem dX2_ofTrade_37 : decode cX2_ofTrade 37 = .ok (.iconst 0, 1) := by decide +kernel
theorem dX2_ofTrade_38 : decode cX2_ofTrade 38 = .ok (.ireturn, 1) := by decide +kernel
theorem dX2_ofTrade_39 : decode cX2_ofTrade 39 = .ok (.iload_n 2, 1) := by decide +kernel
theorem dX2_ofTrade_40 : decode cX2_ofTrade 40 = .ok (.ifCond .ne 12, 3) := by decide +kernel
theorem dX2_ofTrade_43 : decode cX2_ofTrade 43 = .ok (.aload_n 0, 1) := by decide +kernel
theorem dX2_ofTrade_44 : decode cX2_ofTrade 44 = .ok (.getfield 42, 3) := by decide +kernel
theorem dX2_ofTrade_47 : decode cX2_ofTrade 47 = .ok (.iload_n 1, 1) := by decide +kernel
theorem dX2_ofTrade_48 : decode cX2_ofTrade 48 = .ok (.iaload, 1) := by decide +kernel
theorem dX2_ofTrade_49 : decode cX2_ofTrade 49 = .ok (.goto 37, 3) := by decide +kernel
theorem dX2_ofTrade_52 : decode cX2_ofTrade 52 = .ok (.iload_n 2, 1) := by decide +kernel
theorem dX2_ofTrade_53 : decode cX2_ofTrade 53 = .ok (.iconst 1, 1) := by decide +kernel
theorem dX2_ofTrade_54 : decode cX2_ofTrade 54 = .ok (.if_icmp .ne 12, 3) := by decide +kernel
theorem dX2_ofTrade_57 : decode cX2_ofTrade 57 = .ok (.aload_n 0, 1) := by decide +kernel
theorem dX2_ofTrade_58 : decode cX2_ofTrade 58 = .ok (.getfield 45, 3) := by decide +kernel
theorem dX2_ofTrade_61 : decode cX2_ofTrade 61 = .ok (.iload_n 1, 1) := by decide +kernel
theorem dX2_ofTrade_62 : decode cX2_ofTrade 62 = .ok (.iaload, 1) := by decide +kernel
theorem dX2_ofTrade_63 : decode cX2_ofTrade 63 = .ok (.goto 23, 3) := by decide +kernel
theorem dX2_ofTrade_66 : decode cX2_ofTrade 66 = .ok (.iload_n 2, 1) := by decide +kernel
theorem dX2_ofTrade_67 : decode cX2_ofTrade 67 = .ok (.iconst 2, 1) := by decide +kernel
theorem dX2_ofTrade_68 : decode cX2_ofTrade 68 = .ok (.if_icmp .ne 12, 3) := by decide +kernel
theorem dX2_ofTrade_71 : decode cX2_ofTrade 71 = .ok (.aload_n 0, 1) := by decide +kernel
theorem dX2_ofTrade_72 : decode cX2_ofTrade 72 = .ok (.getfield 48, 3) := by decide +kernel
theorem dX2_ofTrade_75 : decode cX2_ofTrade 75 = .ok (.iload_n 1, 1) := by decide +kernel
theorem dX2_ofTrade_76 : decode cX2_ofTrade 76 = .ok (.iaload, 1) := by decide +kernel
theorem dX2_ofTrade_77 : decode cX2_ofTrade 77 = .ok (.goto 9, 3) := by decide +kernel
theorem dX2_ofTrade_80 : decode cX2_ofTrade 80 = .ok (.aload_n 0, 1) := by decide +kernel
theorem dX2_ofTrade_81 : decode cX2_ofTrade 81 = .ok (.getfield 51, 3) := by decide +kernel
theorem dX2_ofTrade_84 : decode cX2_ofTrade 84 = .ok (.iload_n 1, 1) := by decide +kernel
theorem dX2_ofTrade_85 : decode cX2_ofTrade 85 = .ok (.iaload, 1) := by decide +kernel
theorem dX2_ofTrade_86 : decode cX2_ofTrade 86 = .ok (.ireturn, 1) := by decide +kernel
set_option maxRecDepth 20000 in
theorem ggX2_went_X2_in : GoodIn wsX2_went wsX2_in := goodIn_r _ [5] (by decide +kernel) (by decide +kernel)
set_option maxRecDepth 20000 in
theorem gX2_went_X2_in : GoodIn wsX2_went (va_wsS RX2 66 yX2_in wsX2_in) := goodIn_app (goodIn_of _ (by decide +kernel)) ggX2_went_X2_in
set_option maxRecDepth 20000 in
theorem ggX2_went_X2_goes : GoodIn wsX2_went wsX2_goes := goodIn_r _ [9, 10, 11, 12, 13, 14, 15, 16, 17, 18, 19, 20, 21, 22, 23, 24, 25, 26, 27, 28, 29, 30, 31, 32] (by decide +kernel) (by decide +kernel)
set_option maxRecDepth 20000 in
theorem gX2_went_X2_goes : GoodIn wsX2_went (wsV RX2 77 RX2 yX2_goes wsX2_goes) := goodIn_app (goodIn_of _ (by decide +kernel)) ggX2_went_X2_goes
theorem dX2_went_0 : decode cX2_went 0 = .ok (.aload_n 0, 1) := by decide +kernel
theorem dX2_went_1 : decode cX2_went 1 = .ok (.iload_n 1, 1) := by decide +kernel
theorem dX2_went_2 : decode cX2_went 2 = .ok (.iconst 0, 1) := by decide +kernel
theorem dX2_went_3 : decode cX2_went 3 = .ok (.iconst 5, 1) := by decide +kernel
theorem dX2_went_4 : decode cX2_went 4 = .ok (.invokestatic 66, 3) := by decide +kernel
theorem dX2_went_7 : decode cX2_went 7 = .ok (.iconst 1, 1) := by decide +kernel
theorem dX2_went_8 : decode cX2_went 8 = .ok (.iconst 1, 1) := by decide +kernel
theorem dX2_went_9 : decode cX2_went 9 = .ok (.invokevirtual 77, 3) := by decide +kernel
theorem dX2_went_12 : decode cX2_went 12 = .ok (.ifCond .eq 12, 3) := by decide +kernel
theorem dX2_went_15 : decode cX2_went 15 = .ok (.aload_n 0, 1) := by decide +kernel
theorem dX2_went_16 : decode cX2_went 16 = .ok (.getfield 54, 3) := by decide +kernel
theorem dX2_went_19 : decode cX2_went 19 = .ok (.iload_n 1, 1) := by decide +kernel
theorem dX2_went_20 : decode cX2_went 20 = .ok (.iaload, 1) := by decide +kernel
theorem dX2_went_21 : decode cX2_went 21 = .ok (.goto 4, 3) := by decide +kernel
theorem dX2_went_24 : decode cX2_went 24 = .ok (.iconst 0, 1) := by decide +kernel
theorem dX2_went_25 : decode cX2_went 25 = .ok (.ireturn, 1) := by decide +kernel
set_option maxRecDepth 20000 in
theorem ggX2_flow_X2_in : GoodIn wsX2_flow wsX2_in := goodIn_r _ [5] (by decide +kernel) (by decide +kernel)
set_option maxRecDepth 20000 in
theorem gX2_flow_X2_in : GoodIn wsX2_flow (va_wsS RX2 66 yX2_in wsX2_in) := goodIn_app (goodIn_of _ (by decide +kernel)) ggX2_flow_X2_in
set_option maxRecDepth 20000 in
theorem ggX2_flow_X2_goes : GoodIn wsX2_flow wsX2_goes := goodIn_r _ [9, 10, 11, 12, 13, 14, 15, 16, 17, 18, 19, 20, 21, 22, 23, 24, 25, 26, 27, 28, 29, 30, 31, 32] (by decide +kernel) (by decide +kernel)
set_option maxRecDepth 20000 in
theorem gX2_flow_X2_goes : GoodIn wsX2_flow (wsV RX2 77 RX2 yX2_goes wsX2_goes) := goodIn_app (goodIn_of _ (by decide +kernel)) ggX2_flow_X2_goes
theorem dX2_flow_0 : decode cX2_flow 0 = .ok (.aload_n 0, 1) := by decide +kernel
theorem dX2_flow_1 : decode cX2_flow 1 = .ok (.iload_n 1, 1) := by decide +kernel
theorem dX2_flow_2 : decode cX2_flow 2 = .ok (.iconst 0, 1) := by decide +kernel
theorem dX2_flow_3 : decode cX2_flow 3 = .ok (.iconst 4, 1) := by decide +kernel
theorem dX2_flow_4 : decode cX2_flow 4 = .ok (.invokestatic 66, 3) := by decide +kernel
theorem dX2_flow_7 : decode cX2_flow 7 = .ok (.iconst 1, 1) := by decide +kernel
theorem dX2_flow_8 : decode cX2_flow 8 = .ok (.iconst 1, 1) := by decide +kernel
theorem dX2_flow_9 : decode cX2_flow 9 = .ok (.invokevirtual 77, 3) := by decide +kernel
theorem dX2_flow_12 : decode cX2_flow 12 = .ok (.ifCond .eq 12, 3) := by decide +kernel
theorem dX2_flow_15 : decode cX2_flow 15 = .ok (.aload_n 0, 1) := by decide +kernel
theorem dX2_flow_16 : decode cX2_flow 16 = .ok (.getfield 57, 3) := by decide +kernel
theorem dX2_flow_19 : decode cX2_flow 19 = .ok (.iload_n 1, 1) := by decide +kernel
theorem dX2_flow_20 : decode cX2_flow 20 = .ok (.iaload, 1) := by decide +kernel
theorem dX2_flow_21 : decode cX2_flow 21 = .ok (.goto 4, 3) := by decide +kernel
theorem dX2_flow_24 : decode cX2_flow 24 = .ok (.iconst 0, 1) := by decide +kernel
theorem dX2_flow_25 : decode cX2_flow 25 = .ok (.ireturn, 1) := by decide +kernel
set_option maxRecDepth 20000 in
theorem ggX2_isMember_X2_isHouse : GoodIn wsX2_isMember wsX2_isHouse := goodIn_r _ [5, 6, 7, 4, 8] (by decide +kernel) (by decide +kernel)
set_option maxRecDepth 20000 in
theorem gX2_isMember_X2_isHouse : GoodIn wsX2_isMember (va_wsS RX2 70 yX2_isHouse wsX2_isHouse) := goodIn_app (goodIn_of _ (by decide +kernel)) ggX2_isMember_X2_isHouse
set_option maxRecDepth 20000 in
theorem ggX2_isMember_X2_goes : GoodIn wsX2_isMember wsX2_goes := goodIn_r _ [12, 13, 14, 15, 16, 17, 18, 19, 20, 21, 22, 23, 24, 25, 26, 27, 28, 29, 30, 31, 32, 33, 34, 35] (by decide +kernel) (by decide +kernel)
set_option maxRecDepth 20000 in
theorem gX2_isMember_X2_goes : GoodIn wsX2_isMember (wsV RX2 77 RX2 yX2_goes wsX2_goes) := goodIn_app (goodIn_of _ (by decide +kernel)) ggX2_isMember_X2_goes
theorem dX2_isMember_0 : decode cX2_isMember 0 = .ok (.aload_n 0, 1) := by decide +kernel
theorem dX2_isMember_1 : decode cX2_isMember 1 = .ok (.iload_n 1, 1) := by decide +kernel
theorem dX2_isMember_2 : decode cX2_isMember 2 = .ok (.invokestatic 70, 3) := by decide +kernel
theorem dX2_isMember_5 : decode cX2_isMember 5 = .ok (.iconst 1, 1) := by decide +kernel
theorem dX2_isMember_6 : decode cX2_isMember 6 = .ok (.iconst 1, 1) := by decide +kernel
theorem dX2_isMember_7 : decode cX2_isMember 7 = .ok (.invokevirtual 77, 3) := by decide +kernel
theorem dX2_isMember_10 : decode cX2_isMember 10 = .ok (.ifCond .eq 16, 3) := by decide +kernel
theorem dX2_isMember_13 : decode cX2_isMember 13 = .ok (.aload_n 0, 1) := by decide +kernel
theorem dX2_isMember_14 : decode cX2_isMember 14 = .ok (.getfield 31, 3) := by decide +kernel
theorem dX2_isMember_17 : decode cX2_isMember 17 = .ok (.iload_n 1, 1) := by decide +kernel
theorem dX2_isMember_18 : decode cX2_isMember 18 = .ok (.baload, 1) := by decide +kernel
theorem dX2_isMember_19 : decode cX2_isMember 19 = .ok (.ifCond .ne 7, 3) := by decide +kernel
theorem dX2_isMember_22 : decode cX2_isMember 22 = .ok (.iconst 1, 1) := by decide +kernel
theorem dX2_isMember_23 : decode cX2_isMember 23 = .ok (.goto 4, 3) := by decide +kernel
theorem dX2_isMember_26 : decode cX2_isMember 26 = .ok (.iconst 0, 1) := by decide +kernel
theorem dX2_isMember_27 : decode cX2_isMember 27 = .ok (.ireturn, 1) := by decide +kernel
set_option maxRecDepth 20000 in
theorem ggX2_stored_X2_isHouse : GoodIn wsX2_stored wsX2_isHouse := goodIn_r _ [5, 6, 7, 4, 8] (by decide +kernel) (by decide +kernel)
set_option maxRecDepth 20000 in
theorem gX2_stored_X2_isHouse : GoodIn wsX2_stored (va_wsS RX2 70 yX2_isHouse wsX2_isHouse) := goodIn_app (goodIn_of _ (by decide +kernel)) ggX2_stored_X2_isHouse
set_option maxRecDepth 20000 in
theorem ggX2_stored_X2_goes : GoodIn wsX2_stored wsX2_goes := goodIn_r _ [12, 13, 14, 15, 16, 17, 18, 19, 20, 21, 22, 23, 24, 25, 26, 27, 28, 29, 30, 31, 32, 33, 34, 35] (by decide +kernel) (by decide +kernel)
set_option maxRecDepth 20000 in
theorem gX2_stored_X2_goes : GoodIn wsX2_stored (wsV RX2 77 RX2 yX2_goes wsX2_goes) := goodIn_app (goodIn_of _ (by decide +kernel)) ggX2_stored_X2_goes
theorem dX2_stored_0 : decode cX2_stored 0 = .ok (.aload_n 0, 1) := by decide +kernel
theorem dX2_stored_1 : decode cX2_stored 1 = .ok (.iload_n 1, 1) := by decide +kernel
theorem dX2_stored_2 : decode cX2_stored 2 = .ok (.invokestatic 70, 3) := by decide +kernel
theorem dX2_stored_5 : decode cX2_stored 5 = .ok (.iconst 1, 1) := by decide +kernel
theorem dX2_stored_6 : decode cX2_stored 6 = .ok (.iconst 1, 1) := by decide +kernel
theorem dX2_stored_7 : decode cX2_stored 7 = .ok (.invokevirtual 77, 3) := by decide +kernel
theorem dX2_stored_10 : decode cX2_stored 10 = .ok (.ifCond .eq 12, 3) := by decide +kernel
theorem dX2_stored_13 : decode cX2_stored 13 = .ok (.aload_n 0, 1) := by decide +kernel
theorem dX2_stored_14 : decode cX2_stored 14 = .ok (.getfield 25, 3) := by decide +kernel
theorem dX2_stored_17 : decode cX2_stored 17 = .ok (.iload_n 1, 1) := by decide +kernel
theorem dX2_stored_18 : decode cX2_stored 18 = .ok (.iaload, 1) := by decide +kernel
theorem dX2_stored_19 : decode cX2_stored 19 = .ok (.goto 4, 3) := by decide +kernel
theorem dX2_stored_22 : decode cX2_stored 22 = .ok (.iconst 0, 1) := by decide +kernel
theorem dX2_stored_23 : decode cX2_stored 23 = .ok (.ireturn, 1) := by decide +kernel
set_option maxRecDepth 20000 in
theorem ggX2_part_X2_isHouse : GoodIn wsX2_part wsX2_isHouse := goodIn_r _ [5, 6, 7, 4, 8] (by decide +kernel) (by decide +kernel)
set_option maxRecDepth 20000 in
theorem gX2_part_X2_isHouse : GoodIn wsX2_part (va_wsS RX2 70 yX2_isHouse wsX2_isHouse) := goodIn_app (goodIn_of _ (by decide +kernel)) ggX2_part_X2_isHouse
set_option maxRecDepth 20000 in
theorem ggX2_part_X2_goes : GoodIn wsX2_part wsX2_goes := goodIn_r _ [12, 13, 14, 15, 16, 17, 18, 19, 20, 21, 22, 23, 24, 25, 26, 27, 28, 29, 30, 31, 32, 33, 34, 35] (by decide +kernel) (by decide +kernel)
set_option maxRecDepth 20000 in
theorem gX2_part_X2_goes : GoodIn wsX2_part (wsV RX2 77 RX2 yX2_goes wsX2_goes) := goodIn_app (goodIn_of _ (by decide +kernel)) ggX2_part_X2_goes
theorem dX2_part_0 : decode cX2_part 0 = .ok (.aload_n 0, 1) := by decide +kernel
theorem dX2_part_1 : decode cX2_part 1 = .ok (.iload_n 1, 1) := by decide +kernel
theorem dX2_part_2 : decode cX2_part 2 = .ok (.invokestatic 70, 3) := by decide +kernel
theorem dX2_part_5 : decode cX2_part 5 = .ok (.iconst 1, 1) := by decide +kernel
theorem dX2_part_6 : decode cX2_part 6 = .ok (.iconst 1, 1) := by decide +kernel
theorem dX2_part_7 : decode cX2_part 7 = .ok (.invokevirtual 77, 3) := by decide +kernel
theorem dX2_part_10 : decode cX2_part 10 = .ok (.ifCond .eq 12, 3) := by decide +kernel
theorem dX2_part_13 : decode cX2_part 13 = .ok (.aload_n 0, 1) := by decide +kernel
theorem dX2_part_14 : decode cX2_part 14 = .ok (.getfield 22, 3) := by decide +kernel
theorem dX2_part_17 : decode cX2_part 17 = .ok (.iload_n 1, 1) := by decide +kernel
theorem dX2_part_18 : decode cX2_part 18 = .ok (.iaload, 1) := by decide +kernel
theorem dX2_part_19 : decode cX2_part 19 = .ok (.goto 4, 3) := by decide +kernel
theorem dX2_part_22 : decode cX2_part 22 = .ok (.iconst 0, 1) := by decide +kernel
theorem dX2_part_23 : decode cX2_part 23 = .ok (.ireturn, 1) := by decide +kernel
set_option maxRecDepth 20000 in
theorem ggX2_bill_X2_isHouse : GoodIn wsX2_bill wsX2_isHouse := goodIn_r _ [5, 6, 7, 4, 8] (by decide +kernel) (by decide +kernel)
set_option maxRecDepth 20000 in
theorem gX2_bill_X2_isHouse : GoodIn wsX2_bill (va_wsS RX2 70 yX2_isHouse wsX2_isHouse) := goodIn_app (goodIn_of _ (by decide +kernel)) ggX2_bill_X2_isHouse
set_option maxRecDepth 20000 in
theorem ggX2_bill_X2_goes : GoodIn wsX2_bill wsX2_goes := goodIn_r _ [12, 13, 14, 15, 16, 17, 18, 19, 20, 21, 22, 23, 24, 25, 26, 27, 28, 29, 30, 31, 32, 33, 34, 35] (by decide +kernel) (by decide +kernel)
set_option maxRecDepth 20000 in
theorem gX2_bill_X2_goes : GoodIn wsX2_bill (wsV RX2 77 RX2 yX2_goes wsX2_goes) := goodIn_app (goodIn_of _ (by decide +kernel)) ggX2_bill_X2_goes
theorem dX2_bill_0 : decode cX2_bill 0 = .ok (.aload_n 0, 1) := by decide +kernel
theorem dX2_bill_1 : decode cX2_bill 1 = .ok (.iload_n 1, 1) := by decide +kernel
theorem dX2_bill_2 : decode cX2_bill 2 = .ok (.invokestatic 70, 3) := by decide +kernel
theorem dX2_bill_5 : decode cX2_bill 5 = .ok (.iconst 1, 1) := by decide +kernel
theorem dX2_bill_6 : decode cX2_bill 6 = .ok (.iconst 1, 1) := by decide +kernel
theorem dX2_bill_7 : decode cX2_bill 7 = .ok (.invokevirtual 77, 3) := by decide +kernel
theorem dX2_bill_10 : decode cX2_bill 10 = .ok (.ifCond .eq 12, 3) := by decide +kernel
theorem dX2_bill_13 : decode cX2_bill 13 = .ok (.aload_n 0, 1) := by decide +kernel
theorem dX2_bill_14 : decode cX2_bill 14 = .ok (.getfield 28, 3) := by decide +kernel
theorem dX2_bill_17 : decode cX2_bill 17 = .ok (.iload_n 1, 1) := by decide +kernel
theorem dX2_bill_18 : decode cX2_bill 18 = .ok (.iaload, 1) := by decide +kernel
theorem dX2_bill_19 : decode cX2_bill 19 = .ok (.goto 4, 3) := by decide +kernel
theorem dX2_bill_22 : decode cX2_bill 22 = .ok (.iconst 0, 1) := by decide +kernel
theorem dX2_bill_23 : decode cX2_bill 23 = .ok (.ireturn, 1) := by decide +kernel
theorem dX2_pool_0 : decode cX2_pool 0 = .ok (.aload_n 0, 1) := by decide +kernel
theorem dX2_pool_1 : decode cX2_pool 1 = .ok (.iconst 0, 1) := by decide +kernel
theorem dX2_pool_2 : decode cX2_pool 2 = .ok (.putfield 63, 3) := by decide +kernel
theorem dX2_pool_5 : decode cX2_pool 5 = .ok (.aload_n 0, 1) := by decide +kernel
theorem dX2_pool_6 : decode cX2_pool 6 = .ok (.getfield 81, 3) := by decide +kernel
theorem dX2_pool_9 : decode cX2_pool 9 = .ok (.ireturn, 1) := by decide +kernel
theorem dX2_supplied_0 : decode cX2_supplied 0 = .ok (.aload_n 0, 1) := by decide +kernel
theorem dX2_supplied_1 : decode cX2_supplied 1 = .ok (.iconst 0, 1) := by decide +kernel
theorem dX2_supplied_2 : decode cX2_supplied 2 = .ok (.putfield 63, 3) := by decide +kernel
theorem dX2_supplied_5 : decode cX2_supplied 5 = .ok (.aload_n 0, 1) := by decide +kernel
theorem dX2_supplied_6 : decode cX2_supplied 6 = .ok (.getfield 110, 3) := by decide +kernel
theorem dX2_supplied_9 : decode cX2_supplied 9 = .ok (.ireturn, 1) := by decide +kernel
theorem dJ9_abs_0f7a4_0 : decode cJ9_abs_0f7a4 0 = .ok (.iload_n 0, 1) := by decide +kernel
theorem dJ9_abs_0f7a4_1 : decode cJ9_abs_0f7a4 1 = .ok (.ifCond .ge 8, 3) := by decide +kernel
theorem dJ9_abs_0f7a4_4 : decode cJ9_abs_0f7a4 4 = .ok (.iload_n 0, 1) := by decide +kernel
theorem dJ9_abs_0f7a4_5 : decode cJ9_abs_0f7a4 5 = .ok (.ineg, 1) := by decide +kernel
theorem dJ9_abs_0f7a4_6 : decode cJ9_abs_0f7a4 6 = .ok (.goto 4, 3) := by decide +kernel
theorem dJ9_abs_0f7a4_9 : decode cJ9_abs_0f7a4 9 = .ok (.iload_n 0, 1) := by decide +kernel
theorem dJ9_abs_0f7a4_10 : decode cJ9_abs_0f7a4 10 = .ok (.ireturn, 1) := by decide +kernel
theorem dJ9_max_7cf53_0 : decode cJ9_max_7cf53 0 = .ok (.iload_n 0, 1) := by decide +kernel
theorem dJ9_max_7cf53_1 : decode cJ9_max_7cf53 1 = .ok (.iload_n 1, 1) := by decide +kernel
theorem dJ9_max_7cf53_2 : decode cJ9_max_7cf53 2 = .ok (.if_icmp .lt 7, 3) := by decide +kernel
theorem dJ9_max_7cf53_5 : decode cJ9_max_7cf53 5 = .ok (.iload_n 0, 1) := by decide +kernel
theorem dJ9_max_7cf53_6 : decode cJ9_max_7cf53 6 = .ok (.goto 4, 3) := by decide +kernel
theorem dJ9_max_7cf53_9 : decode cJ9_max_7cf53 9 = .ok (.iload_n 1, 1) := by decide +kernel
theorem dJ9_max_7cf53_10 : decode cJ9_max_7cf53 10 = .ok (.ireturn, 1) := by decide +kernel
theorem dJ9_min_7cf53_0 : decode cJ9_min_7cf53 0 = .ok (.iload_n 0, 1) := by decide +kernel
theorem dJ9_min_7cf53_1 : decode cJ9_min_7cf53 1 = .ok (.iload_n 1, 1) := by decide +kernel
theorem dJ9_min_7cf53_2 : decode cJ9_min_7cf53 2 = .ok (.if_icmp .gt 7, 3) := by decide +kernel
theorem dJ9_min_7cf53_5 : decode cJ9_min_7cf53 5 = .ok (.iload_n 0, 1) := by decide +kernel
theorem dJ9_min_7cf53_6 : decode cJ9_min_7cf53 6 = .ok (.goto 4, 3) := by decide +kernel
theorem dJ9_min_7cf53_9 : decode cJ9_min_7cf53 9 = .ok (.iload_n 1, 1) := by decide +kernel
theorem dJ9_min_7cf53_10 : decode cJ9_min_7cf53 10 = .ok (.ireturn, 1) := by decide +kernel
