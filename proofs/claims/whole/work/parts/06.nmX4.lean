set_option maxRecDepth 20000 in
theorem ggX4_init_X2_init : GoodIn wsX4_init wsX2_init := goodIn_r _ [23, 24, 2, 3, 25, 26, 27, 43, 44] (by decide +kernel) (by decide +kernel)
set_option maxRecDepth 20000 in
theorem gX4_init_X2_init_n9 : GoodIn wsX4_init (wsX2_init) := ggX4_init_X2_init
set_option maxRecDepth 20000 in
theorem ggX4_init_X0_init : GoodIn wsX4_init wsX0_init := goodIn_r _ [29, 30, 2, 3, 31, 5, 6, 32, 33, 25, 34, 22, 23, 24, 26, 27, 43, 44, 51, 52, 53] (by decide +kernel) (by decide +kernel)
set_option maxRecDepth 20000 in
theorem gX4_init_X0_init_n21 : GoodIn wsX4_init (wsX0_init) := ggX4_init_X0_init
set_option maxRecDepth 20000 in
theorem ggX4_init_X3_init : GoodIn wsX4_init wsX3_init := goodIn_r _ [36, 37, 2, 3, 38, 54] (by decide +kernel) (by decide +kernel)
set_option maxRecDepth 20000 in
theorem gX4_init_X3_init_n28 : GoodIn wsX4_init (wsX3_init) := ggX4_init_X3_init
set_option maxRecDepth 20000 in
theorem ggX4_init_X1_init : GoodIn wsX4_init wsX1_init := goodIn_r _ [40, 41, 2, 3, 25, 42, 55] (by decide +kernel) (by decide +kernel)
set_option maxRecDepth 20000 in
theorem gX4_init_X1_init_n35 : GoodIn wsX4_init (wsX1_init) := ggX4_init_X1_init
theorem dX4_init_0 : decode cX4_init 0 = .ok (.aload_n 0, 1) := by decide +kernel
theorem dX4_init_1 : decode cX4_init 1 = .ok (.invokespecial 1, 3) := by decide +kernel
theorem dX4_init_4 : decode cX4_init 4 = .ok (.aload_n 0, 1) := by decide +kernel
theorem dX4_init_5 : decode cX4_init 5 = .ok (.new 7, 3) := by decide +kernel
theorem dX4_init_8 : decode cX4_init 8 = .ok (.dup, 1) := by decide +kernel
theorem dX4_init_9 : decode cX4_init 9 = .ok (.invokespecial 9, 3) := by decide +kernel
theorem dX4_init_12 : decode cX4_init 12 = .ok (.putfield 10, 3) := by decide +kernel
theorem dX4_init_15 : decode cX4_init 15 = .ok (.aload_n 0, 1) := by decide +kernel
theorem dX4_init_16 : decode cX4_init 16 = .ok (.new 7, 3) := by decide +kernel
theorem dX4_init_19 : decode cX4_init 19 = .ok (.dup, 1) := by decide +kernel
theorem dX4_init_20 : decode cX4_init 20 = .ok (.invokespecial 9, 3) := by decide +kernel
theorem dX4_init_23 : decode cX4_init 23 = .ok (.putfield 16, 3) := by decide +kernel
theorem dX4_init_26 : decode cX4_init 26 = .ok (.aload_n 0, 1) := by decide +kernel
theorem dX4_init_27 : decode cX4_init 27 = .ok (.new 19, 3) := by decide +kernel
theorem dX4_init_30 : decode cX4_init 30 = .ok (.dup, 1) := by decide +kernel
theorem dX4_init_31 : decode cX4_init 31 = .ok (.invokespecial 21, 3) := by decide +kernel
theorem dX4_init_34 : decode cX4_init 34 = .ok (.putfield 22, 3) := by decide +kernel
theorem dX4_init_37 : decode cX4_init 37 = .ok (.aload_n 0, 1) := by decide +kernel
theorem dX4_init_38 : decode cX4_init 38 = .ok (.new 26, 3) := by decide +kernel
theorem dX4_init_41 : decode cX4_init 41 = .ok (.dup, 1) := by decide +kernel
theorem dX4_init_42 : decode cX4_init 42 = .ok (.invokespecial 28, 3) := by decide +kernel
theorem dX4_init_45 : decode cX4_init 45 = .ok (.putfield 29, 3) := by decide +kernel
theorem dX4_init_48 : decode cX4_init 48 = .ok (.aload_n 0, 1) := by decide +kernel
theorem dX4_init_49 : decode cX4_init 49 = .ok (.new 33, 3) := by decide +kernel
theorem dX4_init_52 : decode cX4_init 52 = .ok (.dup, 1) := by decide +kernel
theorem dX4_init_53 : decode cX4_init 53 = .ok (.invokespecial 35, 3) := by decide +kernel
theorem dX4_init_56 : decode cX4_init 56 = .ok (.putfield 36, 3) := by decide +kernel
theorem dX4_init_59 : decode cX4_init 59 = .ok (.aload_n 0, 1) := by decide +kernel
theorem dX4_init_60 : decode cX4_init 60 = .ok (.iconst 3, 1) := by decide +kernel
theorem dX4_init_61 : decode cX4_init 61 = .ok (.putfield 40, 3) := by decide +kernel
theorem dX4_init_64 : decode cX4_init 64 = .ok (.return_, 1) := by decide +kernel
set_option maxRecDepth 20000 in
theorem ggX4_places_X4_within : GoodIn wsX4_places wsX4_within := goodIn_r _ [5] (by decide +kernel) (by decide +kernel)
set_option maxRecDepth 20000 in
theorem gX4_places_X4_within : GoodIn wsX4_places (va_wsS RX4 44 yX4_within wsX4_within) := goodIn_app (goodIn_of _ (by decide +kernel)) ggX4_places_X4_within
set_option maxRecDepth 20000 in
theorem ggX4_places_X2_clear : GoodIn wsX4_places wsX2_clear := goodIn_r _ [10, 11, 12, 19, 20] (by decide +kernel) (by decide +kernel)
set_option maxRecDepth 20000 in
theorem gX4_places_X2_clear : GoodIn wsX4_places (wsV RX4 51 RX2 yX2_clear wsX2_clear) := goodIn_app (goodIn_of _ (by decide +kernel)) ggX4_places_X2_clear
theorem dX4_places_0 : decode cX4_places 0 = .ok (.iload_n 1, 1) := by decide +kernel
theorem dX4_places_1 : decode cX4_places 1 = .ok (.iconst 2, 1) := by decide +kernel
theorem dX4_places_2 : decode cX4_places 2 = .ok (.bipush 8, 2) := by decide +kernel
theorem dX4_places_4 : decode cX4_places 4 = .ok (.invokestatic 44, 3) := by decide +kernel
theorem dX4_places_7 : decode cX4_places 7 = .ok (.ifCond .ne 6, 3) := by decide +kernel
theorem dX4_places_10 : decode cX4_places 10 = .ok (.bipush (-2), 2) := by decide +kernel
theorem dX4_places_12 : decode cX4_places 12 = .ok (.ireturn, 1) := by decide +kernel
theorem dX4_places_13 : decode cX4_places 13 = .ok (.aload_n 0, 1) := by decide +kernel
theorem dX4_places_14 : decode cX4_places 14 = .ok (.getfield 10, 3) := by decide +kernel
theorem dX4_places_17 : decode cX4_places 17 = .ok (.getfield 48, 3) := by decide +kernel
theorem dX4_places_20 : decode cX4_places 20 = .ok (.istore_n 2, 1) := by decide +kernel
theorem dX4_places_21 : decode cX4_places 21 = .ok (.aload_n 0, 1) := by decide +kernel
theorem dX4_places_22 : decode cX4_places 22 = .ok (.getfield 10, 3) := by decide +kernel
theorem dX4_places_25 : decode cX4_places 25 = .ok (.iload_n 1, 1) := by decide +kernel
theorem dX4_places_26 : decode cX4_places 26 = .ok (.invokevirtual 51, 3) := by decide +kernel
theorem dX4_places_29 : decode cX4_places 29 = .ok (.iload_n 2, 1) := by decide +kernel
theorem dX4_places_30 : decode cX4_places 30 = .ok (.ireturn, 1) := by decide +kernel
set_option maxRecDepth 20000 in
theorem ggX4_digit_X4_isPlace : GoodIn wsX4_digit wsX4_isPlace := goodIn_r _ [6, 1, 7, 8, 5, 9, 10, 11, 12, 13, 14, 15, 16, 17] (by decide +kernel) (by decide +kernel)
set_option maxRecDepth 20000 in
theorem gX4_digit_X4_isPlace : GoodIn wsX4_digit (wsV RX4 55 RX4 yX4_isPlace wsX4_isPlace) := goodIn_app (goodIn_of _ (by decide +kernel)) ggX4_digit_X4_isPlace
set_option maxRecDepth 20000 in
theorem ggX4_digit_X4_within : GoodIn wsX4_digit wsX4_within := goodIn_r _ [9] (by decide +kernel) (by decide +kernel)
set_option maxRecDepth 20000 in
theorem gX4_digit_X4_within : GoodIn wsX4_digit (va_wsS RX4 44 yX4_within wsX4_within) := goodIn_app (goodIn_of _ (by decide +kernel)) ggX4_digit_X4_within
theorem dX4_digit_0 : decode cX4_digit 0 = .ok (.aload_n 0, 1) := by decide +kernel
theorem dX4_digit_1 : decode cX4_digit 1 = .ok (.iload_n 1, 1) := by decide +kernel
theorem dX4_digit_2 : decode cX4_digit 2 = .ok (.invokevirtual 55, 3) := by decide +kernel
theorem dX4_digit_5 : decode cX4_digit 5 = .ok (.ifCond .eq 12, 3) := by decide +kernel
theorem dX4_digit_8 : decode cX4_digit 8 = .ok (.iload_n 2, 1) := by decide +kernel
theorem dX4_digit_9 : decode cX4_digit 9 = .ok (.iconst 0, 1) := by decide +kernel
theorem dX4_digit_10 : decode cX4_digit 10 = .ok (.iconst 3, 1) := by decide +kernel
theorem dX4_digit_11 : decode cX4_digit 11 = .ok (.invokestatic 44, 3) := by decide +kernel
theorem dX4_digit_14 : decode cX4_digit 14 = .ok (.ifCond .ne 6, 3) := by decide +kernel
theorem dX4_digit_17 : decode cX4_digit 17 = .ok (.bipush (-2), 2) := by decide +kernel
theorem dX4_digit_19 : decode cX4_digit 19 = .ok (.ireturn, 1) := by decide +kernel
theorem dX4_digit_20 : decode cX4_digit 20 = .ok (.aload_n 0, 1) := by decide +kernel
theorem dX4_digit_21 : decode cX4_digit 21 = .ok (.getfield 10, 3) := by decide +kernel
theorem dX4_digit_24 : decode cX4_digit 24 = .ok (.getfield 59, 3) := by decide +kernel
theorem dX4_digit_27 : decode cX4_digit 27 = .ok (.iload_n 1, 1) := by decide +kernel
theorem dX4_digit_28 : decode cX4_digit 28 = .ok (.iaload, 1) := by decide +kernel
theorem dX4_digit_29 : decode cX4_digit 29 = .ok (.istore_n 3, 1) := by decide +kernel
theorem dX4_digit_30 : decode cX4_digit 30 = .ok (.aload_n 0, 1) := by decide +kernel
theorem dX4_digit_31 : decode cX4_digit 31 = .ok (.getfield 10, 3) := by decide +kernel
theorem dX4_digit_34 : decode cX4_digit 34 = .ok (.getfield 59, 3) := by decide +kernel
theorem dX4_digit_37 : decode cX4_digit 37 = .ok (.iload_n 1, 1) := by decide +kernel
theorem dX4_digit_38 : decode cX4_digit 38 = .ok (.iload_n 2, 1) := by decide +kernel
theorem dX4_digit_39 : decode cX4_digit 39 = .ok (.iastore, 1) := by decide +kernel
theorem dX4_digit_40 : decode cX4_digit 40 = .ok (.iload_n 3, 1) := by decide +kernel
theorem dX4_digit_41 : decode cX4_digit 41 = .ok (.ireturn, 1) := by decide +kernel
set_option maxRecDepth 20000 in
theorem ggX4_bit_X4_isEntry : GoodIn wsX4_bit wsX4_isEntry := goodIn_r _ [5, 6, 7, 4, 8] (by decide +kernel) (by decide +kernel)
set_option maxRecDepth 20000 in
theorem gX4_bit_X4_isEntry : GoodIn wsX4_bit (va_wsS RX4 63 yX4_isEntry wsX4_isEntry) := goodIn_app (goodIn_of _ (by decide +kernel)) ggX4_bit_X4_isEntry
set_option maxRecDepth 20000 in
theorem ggX4_bit_X4_within : GoodIn wsX4_bit wsX4_within := goodIn_r _ [8] (by decide +kernel) (by decide +kernel)
set_option maxRecDepth 20000 in
theorem gX4_bit_X4_within : GoodIn wsX4_bit (va_wsS RX4 44 yX4_within wsX4_within) := goodIn_app (goodIn_of _ (by decide +kernel)) ggX4_bit_X4_within
set_option maxRecDepth 20000 in
theorem ggX4_bit_X3_at : GoodIn wsX4_bit wsX3_at := goodIn_r _ [13, 14, 25] (by decide +kernel) (by decide +kernel)
set_option maxRecDepth 20000 in
theorem gX4_bit_X3_at : GoodIn wsX4_bit (wsV RX4 66 RX3 yX3_at wsX3_at) := goodIn_app (goodIn_of _ (by decide +kernel)) ggX4_bit_X3_at
set_option maxRecDepth 20000 in
theorem ggX4_bit_X3_put : GoodIn wsX4_bit wsX3_put := goodIn_r _ [18, 14, 25] (by decide +kernel) (by decide +kernel)
set_option maxRecDepth 20000 in
theorem gX4_bit_X3_put : GoodIn wsX4_bit (wsV RX4 70 RX3 yX3_put wsX3_put) := goodIn_app (goodIn_of _ (by decide +kernel)) ggX4_bit_X3_put
theorem dX4_bit_0 : decode cX4_bit 0 = .ok (.iload_n 1, 1) := by decide +kernel
theorem dX4_bit_1 : decode cX4_bit 1 = .ok (.invokestatic 63, 3) := by decide +kernel
theorem dX4_bit_4 : decode cX4_bit 4 = .ok (.ifCond .eq 12, 3) := by decide +kernel
theorem dX4_bit_7 : decode cX4_bit 7 = .ok (.iload_n 2, 1) := by decide +kernel
theorem dX4_bit_8 : decode cX4_bit 8 = .ok (.iconst 0, 1) := by decide +kernel
theorem dX4_bit_9 : decode cX4_bit 9 = .ok (.iconst 1, 1) := by decide +kernel
theorem dX4_bit_10 : decode cX4_bit 10 = .ok (.invokestatic 44, 3) := by decide +kernel
theorem dX4_bit_13 : decode cX4_bit 13 = .ok (.ifCond .ne 6, 3) := by decide +kernel
theorem dX4_bit_16 : decode cX4_bit 16 = .ok (.bipush (-2), 2) := by decide +kernel
theorem dX4_bit_18 : decode cX4_bit 18 = .ok (.ireturn, 1) := by decide +kernel
theorem dX4_bit_19 : decode cX4_bit 19 = .ok (.aload_n 0, 1) := by decide +kernel
theorem dX4_bit_20 : decode cX4_bit 20 = .ok (.getfield 29, 3) := by decide +kernel
theorem dX4_bit_23 : decode cX4_bit 23 = .ok (.iload_n 1, 1) := by decide +kernel
theorem dX4_bit_24 : decode cX4_bit 24 = .ok (.invokevirtual 66, 3) := by decide +kernel
theorem dX4_bit_27 : decode cX4_bit 27 = .ok (.istore_n 3, 1) := by decide +kernel
theorem dX4_bit_28 : decode cX4_bit 28 = .ok (.aload_n 0, 1) := by decide +kernel
theorem dX4_bit_29 : decode cX4_bit 29 = .ok (.getfield 29, 3) := by decide +kernel
theorem dX4_bit_32 : decode cX4_bit 32 = .ok (.iload_n 1, 1) := by decide +kernel
theorem dX4_bit_33 : decode cX4_bit 33 = .ok (.iload_n 2, 1) := by decide +kernel
theorem dX4_bit_34 : decode cX4_bit 34 = .ok (.invokevirtual 70, 3) := by decide +kernel
theorem dX4_bit_37 : decode cX4_bit 37 = .ok (.iload_n 3, 1) := by decide +kernel
theorem dX4_bit_38 : decode cX4_bit 38 = .ok (.ireturn, 1) := by decide +kernel
set_option maxRecDepth 20000 in
theorem ggX4_linear_X4_isEntry : GoodIn wsX4_linear wsX4_isEntry := goodIn_r _ [5, 6, 7, 4, 8] (by decide +kernel) (by decide +kernel)
set_option maxRecDepth 20000 in
theorem gX4_linear_X4_isEntry : GoodIn wsX4_linear (va_wsS RX4 63 yX4_isEntry wsX4_isEntry) := goodIn_app (goodIn_of _ (by decide +kernel)) ggX4_linear_X4_isEntry
set_option maxRecDepth 20000 in
theorem ggX4_linear_X3_parities : GoodIn wsX4_linear wsX3_parities := goodIn_r _ [12, 13, 14, 15, 16, 17, 18, 19] (by decide +kernel) (by decide +kernel)
set_option maxRecDepth 20000 in
theorem gX4_linear_X3_parities : GoodIn wsX4_linear (va_wsS RX4 74 yX3_parities wsX3_parities) := goodIn_app (goodIn_of _ (by decide +kernel)) ggX4_linear_X3_parities
theorem dX4_linear_0 : decode cX4_linear 0 = .ok (.iload_n 1, 1) := by decide +kernel
theorem dX4_linear_1 : decode cX4_linear 1 = .ok (.invokestatic 63, 3) := by decide +kernel
theorem dX4_linear_4 : decode cX4_linear 4 = .ok (.ifCond .ne 6, 3) := by decide +kernel
theorem dX4_linear_7 : decode cX4_linear 7 = .ok (.bipush (-2), 2) := by decide +kernel
theorem dX4_linear_9 : decode cX4_linear 9 = .ok (.ireturn, 1) := by decide +kernel
theorem dX4_linear_10 : decode cX4_linear 10 = .ok (.aload_n 0, 1) := by decide +kernel
theorem dX4_linear_11 : decode cX4_linear 11 = .ok (.getfield 29, 3) := by decide +kernel
theorem dX4_linear_14 : decode cX4_linear 14 = .ok (.iload_n 1, 1) := by decide +kernel
theorem dX4_linear_15 : decode cX4_linear 15 = .ok (.invokestatic 74, 3) := by decide +kernel
theorem dX4_linear_18 : decode cX4_linear 18 = .ok (.putfield 77, 3) := by decide +kernel
theorem dX4_linear_21 : decode cX4_linear 21 = .ok (.iconst 1, 1) := by decide +kernel
theorem dX4_linear_22 : decode cX4_linear 22 = .ok (.ireturn, 1) := by decide +kernel
set_option maxRecDepth 20000 in
theorem ggX4_line_X4_isPoint : GoodIn wsX4_line wsX4_isPoint := goodIn_r _ [5, 6, 7, 4, 8] (by decide +kernel) (by decide +kernel)
set_option maxRecDepth 20000 in
theorem gX4_line_X4_isPoint : GoodIn wsX4_line (va_wsS RX4 80 yX4_isPoint wsX4_isPoint) := goodIn_app (goodIn_of _ (by decide +kernel)) ggX4_line_X4_isPoint
set_option maxRecDepth 20000 in
theorem ggX4_line_X1_joined : GoodIn wsX4_line wsX1_joined := goodIn_r _ [13, 14, 25] (by decide +kernel) (by decide +kernel)
set_option maxRecDepth 20000 in
theorem gX4_line_X1_joined : GoodIn wsX4_line (wsV RX4 83 RX1 yX1_joined wsX1_joined) := goodIn_app (goodIn_of _ (by decide +kernel)) ggX4_line_X1_joined
set_option maxRecDepth 20000 in
theorem ggX4_line_X1_join : GoodIn wsX4_line wsX1_join := goodIn_r _ [18, 14, 25] (by decide +kernel) (by decide +kernel)
set_option maxRecDepth 20000 in
theorem gX4_line_X1_join : GoodIn wsX4_line (wsV RX4 87 RX1 yX1_join wsX1_join) := goodIn_app (goodIn_of _ (by decide +kernel)) ggX4_line_X1_join
theorem dX4_line_0 : decode cX4_line 0 = .ok (.iload_n 1, 1) := by decide +kernel
theorem dX4_line_1 : decode cX4_line 1 = .ok (.invokestatic 80, 3) := by decide +kernel
theorem dX4_line_4 : decode cX4_line 4 = .ok (.ifCond .eq 15, 3) := by decide +kernel
theorem dX4_line_7 : decode cX4_line 7 = .ok (.iload_n 2, 1) := by decide +kernel
theorem dX4_line_8 : decode cX4_line 8 = .ok (.invokestatic 80, 3) := by decide +kernel
theorem dX4_line_11 : decode cX4_line 11 = .ok (.ifCond .eq 8, 3) := by decide +kernel
theorem dX4_line_14 : decode cX4_line 14 = .ok (.iload_n 1, 1) := by decide +kernel
theorem dX4_line_15 : decode cX4_line 15 = .ok (.iload_n 2, 1) := by decide +kernel
theorem dX4_line_16 : decode cX4_line 16 = .ok (.if_icmp .ne 6, 3) := by decide +kernel
theorem dX4_line_19 : decode cX4_line 19 = .ok (.bipush (-2), 2) := by decide +kernel
theorem dX4_line_21 : decode cX4_line 21 = .ok (.ireturn, 1) := by decide +kernel
theorem dX4_line_22 : decode cX4_line 22 = .ok (.aload_n 0, 1) := by decide +kernel
theorem dX4_line_23 : decode cX4_line 23 = .ok (.getfield 36, 3) := by decide +kernel
theorem dX4_line_26 : decode cX4_line 26 = .ok (.iload_n 1, 1) := by decide +kernel
theorem dX4_line_27 : decode cX4_line 27 = .ok (.iload_n 2, 1) := by decide +kernel
theorem dX4_line_28 : decode cX4_line 28 = .ok (.invokevirtual 83, 3) := by decide +kernel
theorem dX4_line_31 : decode cX4_line 31 = .ok (.istore 4, 2) := by decide +kernel
theorem dX4_line_33 : decode cX4_line 33 = .ok (.aload_n 0, 1) := by decide +kernel
theorem dX4_line_34 : decode cX4_line 34 = .ok (.getfield 36, 3) := by decide +kernel
theorem dX4_line_37 : decode cX4_line 37 = .ok (.iload_n 1, 1) := by decide +kernel
theorem dX4_line_38 : decode cX4_line 38 = .ok (.iload_n 2, 1) := by decide +kernel
theorem dX4_line_39 : decode cX4_line 39 = .ok (.iload_n 3, 1) := by decide +kernel
theorem dX4_line_40 : decode cX4_line 40 = .ok (.invokevirtual 87, 3) := by decide +kernel
theorem dX4_line_43 : decode cX4_line 43 = .ok (.iload 4, 2) := by decide +kernel
theorem dX4_line_45 : decode cX4_line 45 = .ok (.ireturn, 1) := by decide +kernel
set_option maxRecDepth 20000 in
theorem ggX4_draw_X4_within : GoodIn wsX4_draw wsX4_within := goodIn_r _ [5] (by decide +kernel) (by decide +kernel)
set_option maxRecDepth 20000 in
theorem gX4_draw_X4_within : GoodIn wsX4_draw (va_wsS RX4 44 yX4_within wsX4_within) := goodIn_app (goodIn_of _ (by decide +kernel)) ggX4_draw_X4_within
theorem dX4_draw_0 : decode cX4_draw 0 = .ok (.iload_n 1, 1) := by decide +kernel
theorem dX4_draw_1 : decode cX4_draw 1 = .ok (.iconst 1, 1) := by decide +kernel
theorem dX4_draw_2 : decode cX4_draw 2 = .ok (.bipush 6, 2) := by decide +kernel
theorem dX4_draw_4 : decode cX4_draw 4 = .ok (.invokestatic 44, 3) := by decide +kernel
theorem dX4_draw_7 : decode cX4_draw 7 = .ok (.ifCond .ne 6, 3) := by decide +kernel
theorem dX4_draw_10 : decode cX4_draw 10 = .ok (.bipush (-2), 2) := by decide +kernel
theorem dX4_draw_12 : decode cX4_draw 12 = .ok (.ireturn, 1) := by decide +kernel
theorem dX4_draw_13 : decode cX4_draw 13 = .ok (.aload_n 0, 1) := by decide +kernel
theorem dX4_draw_14 : decode cX4_draw 14 = .ok (.getfield 40, 3) := by decide +kernel
theorem dX4_draw_17 : decode cX4_draw 17 = .ok (.istore_n 2, 1) := by decide +kernel
theorem dX4_draw_18 : decode cX4_draw 18 = .ok (.aload_n 0, 1) := by decide +kernel
theorem dX4_draw_19 : decode cX4_draw 19 = .ok (.iload_n 1, 1) := by decide +kernel
theorem dX4_draw_20 : decode cX4_draw 20 = .ok (.putfield 40, 3) := by decide +kernel
theorem dX4_draw_23 : decode cX4_draw 23 = .ok (.iload_n 2, 1) := by decide +kernel
theorem dX4_draw_24 : decode cX4_draw 24 = .ok (.ireturn, 1) := by decide +kernel
set_option maxRecDepth 20000 in
theorem ggX4_is_X4_isSubject : GoodIn wsX4_is wsX4_isSubject := goodIn_r _ [4, 5, 6, 3, 7] (by decide +kernel) (by decide +kernel)
set_option maxRecDepth 20000 in
theorem gX4_is_X4_isSubject : GoodIn wsX4_is (va_wsS RX4 91 yX4_isSubject wsX4_isSubject) := goodIn_app (goodIn_of _ (by decide +kernel)) ggX4_is_X4_isSubject
set_option maxRecDepth 20000 in
theorem ggX4_is_X4_howFar : GoodIn wsX4_is wsX4_howFar := goodIn_r _ [11, 12, 13, 14, 15, 16, 17, 3, 18, 5, 6, 7, 19, 20, 21, 22, 23, 24, 25, 26, 27, 28, 29, 30, 31, 32, 33, 34, 35, 36, 37, 38, 39, 40, 41, 42, 43, 44, 45, 46, 47, 48, 49, 50, 51, 52, 53, 54, 55, 56, 57, 58, 59, 60, 61, 62, 63, 64, 65, 66, 67, 68, 69, 70, 71, 72, 73, 74, 75, 76, 77, 78, 79, 80, 81, 82, 83, 84, 85, 86, 87, 88, 89, 90, 91, 92, 93, 94, 95, 96, 97, 98, 99, 100, 101, 102, 103, 104, 105, 106, 107, 108, 109, 110, 111, 112, 113, 114, 115, 116, 117, 118, 119, 120, 121, 122, 123, 124, 125, 126, 127, 128, 129, 130, 131, 132, 133] (by decide +kernel) (by decide +kernel)
set_option maxRecDepth 20000 in
theorem gX4_is_X4_howFar : GoodIn wsX4_is (wsV RX4 94 RX4 yX4_howFar wsX4_howFar) := goodIn_app (goodIn_of _ (by decide +kernel)) ggX4_is_X4_howFar
theorem dX4_is_0 : decode cX4_is 0 = .ok (.iload_n 1, 1) := by decide +kernel
theorem dX4_is_1 : decode cX4_is 1 = .ok (.invokestatic 91, 3) := by decide +kernel
theorem dX4_is_4 : decode cX4_is 4 = .ok (.ifCond .ne 6, 3) := by decide +kernel
theorem dX4_is_7 : decode cX4_is 7 = .ok (.bipush (-2), 2) := by decide +kernel
theorem dX4_is_9 : decode cX4_is 9 = .ok (.ireturn, 1) := by decide +kernel
theorem dX4_is_10 : decode cX4_is 10 = .ok (.aload_n 0, 1) := by decide +kernel
theorem dX4_is_11 : decode cX4_is 11 = .ok (.iload_n 1, 1) := by decide +kernel
theorem dX4_is_12 : decode cX4_is 12 = .ok (.invokevirtual 94, 3) := by decide +kernel
theorem dX4_is_15 : decode cX4_is 15 = .ok (.ifCond .ne 7, 3) := by decide +kernel
theorem dX4_is_18 : decode cX4_is 18 = .ok (.iconst 1, 1) := by decide +kernel
theorem dX4_is_19 : decode cX4_is 19 = .ok (.goto 4, 3) := by decide +kernel
theorem dX4_is_22 : decode cX4_is 22 = .ok (.iconst 0, 1) := by decide +kernel
theorem dX4_is_23 : decode cX4_is 23 = .ok (.ireturn, 1) := by decide +kernel
set_option maxRecDepth 20000 in
theorem ggX4_distance_X4_isSubject : GoodIn wsX4_distance wsX4_isSubject := goodIn_r _ [4, 5, 6, 3, 7] (by decide +kernel) (by decide +kernel)
set_option maxRecDepth 20000 in
theorem gX4_distance_X4_isSubject : GoodIn wsX4_distance (va_wsS RX4 91 yX4_isSubject wsX4_isSubject) := goodIn_app (goodIn_of _ (by decide +kernel)) ggX4_distance_X4_isSubject
set_option maxRecDepth 20000 in
theorem ggX4_distance_X4_howFar : GoodIn wsX4_distance wsX4_howFar := goodIn_r _ [11, 12, 13, 14, 15, 16, 17, 3, 18, 5, 6, 7, 19, 20, 21, 22, 23, 24, 25, 26, 27, 28, 29, 30, 31, 32, 33, 34, 35, 36, 37, 38, 39, 40, 41, 42, 43, 44, 45, 46, 47, 48, 49, 50, 51, 52, 53, 54, 55, 56, 57, 58, 59, 60, 61, 62, 63, 64, 65, 66, 67, 68, 69, 70, 71, 72, 73, 74, 75, 76, 77, 78, 79, 80, 81, 82, 83, 84, 85, 86, 87, 88, 89, 90, 91, 92, 93, 94, 95, 96, 97, 98, 99, 100, 101, 102, 103, 104, 105, 106, 107, 108, 109, 110, 111, 112, 113, 114, 115, 116, 117, 118, 119, 120, 121, 122, 123, 124, 125, 126, 127, 128, 129, 130, 131, 132, 133] (by decide +kernel) (by decide +kernel)
set_option maxRecDepth 20000 in
theorem gX4_distance_X4_howFar : GoodIn wsX4_distance (wsV RX4 94 RX4 yX4_howFar wsX4_howFar) := goodIn_app (goodIn_of _ (by decide +kernel)) ggX4_distance_X4_howFar
theorem dX4_distance_0 : decode cX4_distance 0 = .ok (.iload_n 1, 1) := by decide +kernel
theorem dX4_distance_1 : decode cX4_distance 1 = .ok (.invokestatic 91, 3) := by decide +kernel
theorem dX4_distance_4 : decode cX4_distance 4 = .ok (.ifCond .ne 6, 3) := by decide +kernel
theorem dX4_distance_7 : decode cX4_distance 7 = .ok (.bipush (-2), 2) := by decide +kernel
theorem dX4_distance_9 : decode cX4_distance 9 = .ok (.ireturn, 1) := by decide +kernel
theorem dX4_distance_10 : decode cX4_distance 10 = .ok (.aload_n 0, 1) := by decide +kernel
theorem dX4_distance_11 : decode cX4_distance 11 = .ok (.iload_n 1, 1) := by decide +kernel
theorem dX4_distance_12 : decode cX4_distance 12 = .ok (.invokevirtual 94, 3) := by decide +kernel
theorem dX4_distance_15 : decode cX4_distance 15 = .ok (.ireturn, 1) := by decide +kernel
set_option maxRecDepth 20000 in
theorem ggX4_nearest_X4_isSubject : GoodIn wsX4_nearest wsX4_isSubject := goodIn_r _ [8, 9, 10, 7, 11] (by decide +kernel) (by decide +kernel)
set_option maxRecDepth 20000 in
theorem gX4_nearest_X4_isSubject : GoodIn wsX4_nearest (va_wsS RX4 91 yX4_isSubject wsX4_isSubject) := goodIn_app (goodIn_of _ (by decide +kernel)) ggX4_nearest_X4_isSubject
set_option maxRecDepth 20000 in
theorem ggX4_nearest_X4_isRow : GoodIn wsX4_nearest wsX4_isRow := goodIn_r _ [14, 9, 10, 7, 11] (by decide +kernel) (by decide +kernel)
set_option maxRecDepth 20000 in
theorem gX4_nearest_X4_isRow : GoodIn wsX4_nearest (va_wsS RX4 97 yX4_isRow wsX4_isRow) := goodIn_app (goodIn_of _ (by decide +kernel)) ggX4_nearest_X4_isRow
set_option maxRecDepth 20000 in
theorem ggX4_nearest_X4_isPlace : GoodIn wsX4_nearest wsX4_isPlace := goodIn_r _ [18, 2, 9, 10, 7, 11, 119, 120, 121, 122, 123, 124, 128, 129] (by decide +kernel) (by decide +kernel)
set_option maxRecDepth 20000 in
theorem gX4_nearest_X4_isPlace : GoodIn wsX4_nearest (wsV RX4 55 RX4 yX4_isPlace wsX4_isPlace) := goodIn_app (goodIn_of _ (by decide +kernel)) ggX4_nearest_X4_isPlace
set_option maxRecDepth 20000 in
theorem ggX4_nearest_X0_seek : GoodIn wsX4_nearest wsX0_seek := goodIn_r _ [23, 24, 25, 26, 27, 28, 29, 30, 31, 32, 33, 34, 22, 35, 36, 37, 38, 39, 40, 41, 42, 43, 44, 45, 46, 47, 48, 49, 50, 51, 52, 53, 54, 55, 56, 57, 58, 59, 60, 61, 62, 63, 64, 65, 66, 67, 68, 69, 70, 71, 72, 73, 74, 75, 76, 77, 78, 79, 80, 125, 126, 127, 128, 129] (by decide +kernel) (by decide +kernel)
set_option maxRecDepth 20000 in
theorem gX4_nearest_X0_seek : GoodIn wsX4_nearest (wsV RX4 100 RX0 yX0_seek wsX0_seek) := goodIn_app (goodIn_of _ (by decide +kernel)) ggX4_nearest_X0_seek
set_option maxRecDepth 20000 in
theorem ggX4_nearest_X3_closest : GoodIn wsX4_nearest wsX3_closest := goodIn_r _ [85, 86, 87, 88, 84, 89, 90, 91, 92, 93, 94, 95, 96, 97, 98, 99, 100, 130] (by decide +kernel) (by decide +kernel)
set_option maxRecDepth 20000 in
theorem gX4_nearest_X3_closest : GoodIn wsX4_nearest (wsV RX4 107 RX3 yX3_closest wsX3_closest) := goodIn_app (goodIn_of _ (by decide +kernel)) ggX4_nearest_X3_closest
set_option maxRecDepth 20000 in
theorem ggX4_nearest_X1_bestColouring : GoodIn wsX4_nearest wsX1_bestColouring := goodIn_r _ [105, 106, 107, 108, 104, 109, 110, 111, 112, 113, 114, 115, 116, 117, 118, 95, 96, 97, 98, 99, 100, 131] (by decide +kernel) (by decide +kernel)
set_option maxRecDepth 20000 in
theorem gX4_nearest_X1_bestColouring : GoodIn wsX4_nearest (wsV RX4 111 RX1 yX1_bestColouring wsX1_bestColouring) := goodIn_app (goodIn_of _ (by decide +kernel)) ggX4_nearest_X1_bestColouring
theorem dX4_nearest_0 : decode cX4_nearest 0 = .ok (.iload_n 1, 1) := by decide +kernel
theorem dX4_nearest_1 : decode cX4_nearest 1 = .ok (.invokestatic 91, 3) := by decide +kernel
theorem dX4_nearest_4 : decode cX4_nearest 4 = .ok (.ifCond .ne 6, 3) := by decide +kernel
theorem dX4_nearest_7 : decode cX4_nearest 7 = .ok (.bipush (-2), 2) := by decide +kernel
theorem dX4_nearest_9 : decode cX4_nearest 9 = .ok (.ireturn, 1) := by decide +kernel
theorem dX4_nearest_10 : decode cX4_nearest 10 = .ok (.iload_n 1, 1) := by decide +kernel
theorem dX4_nearest_11 : decode cX4_nearest 11 = .ok (.invokestatic 97, 3) := by decide +kernel
theorem dX4_nearest_14 : decode cX4_nearest 14 = .ok (.ifCond .eq 40, 3) := by decide +kernel
theorem dX4_nearest_17 : decode cX4_nearest 17 = .ok (.aload_n 0, 1) := by decide +kernel
theorem dX4_nearest_18 : decode cX4_nearest 18 = .ok (.iload_n 2, 1) := by decide +kernel
theorem dX4_nearest_19 : decode cX4_nearest 19 = .ok (.invokevirtual 55, 3) := by decide +kernel
theorem dX4_nearest_22 : decode cX4_nearest 22 = .ok (.ifCond .ne 6, 3) := by decide +kernel
theorem dX4_nearest_25 : decode cX4_nearest 25 = .ok (.bipush (-2), 2) := by decide +kernel
theorem dX4_nearest_27 : decode cX4_nearest 27 = .ok (.ireturn, 1) := by decide +kernel
theorem dX4_nearest_28 : decode cX4_nearest 28 = .ok (.aload_n 0, 1) := by decide +kernel
theorem dX4_nearest_29 : decode cX4_nearest 29 = .ok (.getfield 22, 3) := by decide +kernel
theorem dX4_nearest_32 : decode cX4_nearest 32 = .ok (.aload_n 0, 1) := by decide +kernel
theorem dX4_nearest_33 : decode cX4_nearest 33 = .ok (.getfield 10, 3) := by decide +kernel
theorem dX4_nearest_36 : decode cX4_nearest 36 = .ok (.iload_n 1, 1) := by decide +kernel
theorem dX4_nearest_37 : decode cX4_nearest 37 = .ok (.invokevirtual 100, 3) := by decide +kernel
theorem dX4_nearest_40 : decode cX4_nearest 40 = .ok (.pop, 1) := by decide +kernel
theorem dX4_nearest_41 : decode cX4_nearest 41 = .ok (.aload_n 0, 1) := by decide +kernel
theorem dX4_nearest_42 : decode cX4_nearest 42 = .ok (.getfield 22, 3) := by decide +kernel
theorem dX4_nearest_45 : decode cX4_nearest 45 = .ok (.getfield 104, 3) := by decide +kernel
theorem dX4_nearest_48 : decode cX4_nearest 48 = .ok (.getfield 59, 3) := by decide +kernel
theorem dX4_nearest_51 : decode cX4_nearest 51 = .ok (.iload_n 2, 1) := by decide +kernel
theorem dX4_nearest_52 : decode cX4_nearest 52 = .ok (.iaload, 1) := by decide +kernel
theorem dX4_nearest_53 : decode cX4_nearest 53 = .ok (.ireturn, 1) := by decide +kernel
theorem dX4_nearest_54 : decode cX4_nearest 54 = .ok (.iload_n 2, 1) := by decide +kernel
theorem dX4_nearest_55 : decode cX4_nearest 55 = .ok (.ifCond .eq 6, 3) := by decide +kernel
theorem dX4_nearest_58 : decode cX4_nearest 58 = .ok (.bipush (-2), 2) := by decide +kernel
theorem dX4_nearest_60 : decode cX4_nearest 60 = .ok (.ireturn, 1) := by decide +kernel
theorem dX4_nearest_61 : decode cX4_nearest 61 = .ok (.iload_n 1, 1) := by decide +kernel
theorem dX4_nearest_62 : decode cX4_nearest 62 = .ok (.iconst 4, 1) := by decide +kernel
theorem dX4_nearest_63 : decode cX4_nearest 63 = .ok (.if_icmp .ne 13, 3) := by decide +kernel
theorem dX4_nearest_66 : decode cX4_nearest 66 = .ok (.aload_n 0, 1) := by decide +kernel
theorem dX4_nearest_67 : decode cX4_nearest 67 = .ok (.getfield 29, 3) := by decide +kernel
theorem dX4_nearest_70 : decode cX4_nearest 70 = .ok (.invokevirtual 107, 3) := by decide +kernel
theorem dX4_nearest_73 : decode cX4_nearest 73 = .ok (.goto 10, 3) := by decide +kernel
theorem dX4_nearest_76 : decode cX4_nearest 76 = .ok (.aload_n 0, 1) := by decide +kernel
theorem dX4_nearest_77 : decode cX4_nearest 77 = .ok (.getfield 36, 3) := by decide +kernel
theorem dX4_nearest_80 : decode cX4_nearest 80 = .ok (.invokevirtual 111, 3) := by decide +kernel
theorem dX4_nearest_83 : decode cX4_nearest 83 = .ok (.ireturn, 1) := by decide +kernel
set_option maxRecDepth 20000 in
theorem ggX4_mend_X4_isSubject : GoodIn wsX4_mend wsX4_isSubject := goodIn_r _ [8, 9, 10, 7, 11] (by decide +kernel) (by decide +kernel)
set_option maxRecDepth 20000 in
theorem gX4_mend_X4_isSubject : GoodIn wsX4_mend (va_wsS RX4 91 yX4_isSubject wsX4_isSubject) := goodIn_app (goodIn_of _ (by decide +kernel)) ggX4_mend_X4_isSubject
set_option maxRecDepth 20000 in
theorem ggX4_mend_X4_howFar : GoodIn wsX4_mend wsX4_howFar := goodIn_r _ [15, 2, 1, 3, 4, 16, 17, 7, 18, 9, 10, 11, 19, 20, 21, 22, 23, 24, 25, 26, 27, 28, 29, 30, 31, 32, 33, 34, 35, 36, 37, 38, 39, 40, 41, 42, 43, 44, 45, 46, 47, 48, 49, 50, 51, 52, 53, 54, 55, 56, 57, 58, 59, 60, 61, 62, 63, 64, 65, 66, 67, 68, 69, 70, 71, 72, 73, 74, 75, 76, 77, 78, 79, 80, 81, 82, 83, 84, 85, 86, 87, 88, 89, 90, 91, 92, 93, 94, 95, 96, 97, 98, 99, 100, 101, 102, 103, 104, 105, 106, 107, 108, 109, 110, 111, 112, 113, 114, 115, 116, 117, 118, 119, 120, 127, 128, 129, 130, 131, 132, 133, 134, 135, 137, 138, 136, 139] (by decide +kernel) (by decide +kernel)
set_option maxRecDepth 20000 in
theorem gX4_mend_X4_howFar : GoodIn wsX4_mend (wsV RX4 94 RX4 yX4_howFar wsX4_howFar) := goodIn_app (goodIn_of _ (by decide +kernel)) ggX4_mend_X4_howFar
set_option maxRecDepth 20000 in
theorem ggX4_mend_X4_isRow : GoodIn wsX4_mend wsX4_isRow := goodIn_r _ [18, 9, 10, 7, 11] (by decide +kernel) (by decide +kernel)
set_option maxRecDepth 20000 in
theorem gX4_mend_X4_isRow : GoodIn wsX4_mend (va_wsS RX4 97 yX4_isRow wsX4_isRow) := goodIn_app (goodIn_of _ (by decide +kernel)) ggX4_mend_X4_isRow
set_option maxRecDepth 20000 in
theorem ggX4_mend_X2_become : GoodIn wsX4_mend wsX2_become := goodIn_r _ [29, 30, 31, 137, 138] (by decide +kernel) (by decide +kernel)
set_option maxRecDepth 20000 in
theorem gX4_mend_X2_become : GoodIn wsX4_mend (wsV RX4 114 RX2 yX2_become wsX2_become) := goodIn_app (goodIn_of _ (by decide +kernel)) ggX4_mend_X2_become
set_option maxRecDepth 20000 in
theorem ggX4_mend_X3_closest : GoodIn wsX4_mend wsX3_closest := goodIn_r _ [85, 86, 87, 88, 84, 89, 90, 91, 92, 93, 94, 95, 96, 97, 98, 99, 100, 136] (by decide +kernel) (by decide +kernel)
set_option maxRecDepth 20000 in
theorem gX4_mend_X3_closest : GoodIn wsX4_mend (wsV RX4 107 RX3 yX3_closest wsX3_closest) := goodIn_app (goodIn_of _ (by decide +kernel)) ggX4_mend_X3_closest
set_option maxRecDepth 20000 in
theorem ggX4_mend_X3_parities : GoodIn wsX4_mend wsX3_parities := goodIn_r _ [93, 94, 95, 96, 97, 98, 99, 100] (by decide +kernel) (by decide +kernel)
set_option maxRecDepth 20000 in
theorem gX4_mend_X3_parities : GoodIn wsX4_mend (va_wsS RX4 74 yX3_parities wsX3_parities) := goodIn_app (goodIn_of _ (by decide +kernel)) ggX4_mend_X3_parities
set_option maxRecDepth 20000 in
theorem ggX4_mend_X1_bestColouring : GoodIn wsX4_mend wsX1_bestColouring := goodIn_r _ [106, 107, 108, 109, 105, 110, 111, 112, 113, 114, 115, 116, 117, 118, 119, 95, 96, 97, 98, 99, 100, 139] (by decide +kernel) (by decide +kernel)
set_option maxRecDepth 20000 in
theorem gX4_mend_X1_bestColouring : GoodIn wsX4_mend (wsV RX4 111 RX1 yX1_bestColouring wsX1_bestColouring) := goodIn_app (goodIn_of _ (by decide +kernel)) ggX4_mend_X1_bestColouring
set_option maxRecDepth 20000 in
theorem ggX4_mend_X1_cutLikeLines : GoodIn wsX4_mend wsX1_cutLikeLines := goodIn_r _ [126, 115, 116, 117, 105, 118, 139] (by decide +kernel) (by decide +kernel)
set_option maxRecDepth 20000 in
theorem gX4_mend_X1_cutLikeLines : GoodIn wsX4_mend (wsV RX4 118 RX1 yX1_cutLikeLines wsX1_cutLikeLines) := goodIn_app (goodIn_of _ (by decide +kernel)) ggX4_mend_X1_cutLikeLines
theorem dX4_mend_0 : decode cX4_mend 0 = .ok (.iload_n 1, 1) := by decide +kernel
theorem dX4_mend_1 : decode cX4_mend 1 = .ok (.invokestatic 91, 3) := by decide +kernel
theorem dX4_mend_4 : decode cX4_mend 4 = .ok (.ifCond .ne 6, 3) := by decide +kernel
theorem dX4_mend_7 : decode cX4_mend 7 = .ok (.bipush (-2), 2) := by decide +kernel
theorem dX4_mend_9 : decode cX4_mend 9 = .ok (.ireturn, 1) := by decide +kernel
theorem dX4_mend_10 : decode cX4_mend 10 = .ok (.aload_n 0, 1) := by decide +kernel
theorem dX4_mend_11 : decode cX4_mend 11 = .ok (.iload_n 1, 1) := by decide +kernel
theorem dX4_mend_12 : decode cX4_mend 12 = .ok (.invokevirtual 94, 3) := by decide +kernel
theorem dX4_mend_15 : decode cX4_mend 15 = .ok (.istore_n 2, 1) := by decide +kernel
theorem dX4_mend_16 : decode cX4_mend 16 = .ok (.iload_n 1, 1) := by decide +kernel
theorem dX4_mend_17 : decode cX4_mend 17 = .ok (.invokestatic 97, 3) := by decide +kernel
theorem dX4_mend_20 : decode cX4_mend 20 = .ok (.ifCond .eq 20, 3) := by decide +kernel
theorem dX4_mend_23 : decode cX4_mend 23 = .ok (.aload_n 0, 1) := by decide +kernel
theorem dX4_mend_24 : decode cX4_mend 24 = .ok (.getfield 10, 3) := by decide +kernel
theorem dX4_mend_27 : decode cX4_mend 27 = .ok (.aload_n 0, 1) := by decide +kernel
theorem dX4_mend_28 : decode cX4_mend 28 = .ok (.getfield 22, 3) := by decide +kernel
theorem dX4_mend_31 : decode cX4_mend 31 = .ok (.getfield 104, 3) := by decide +kernel
theorem dX4_mend_34 : decode cX4_mend 34 = .ok (.invokevirtual 114, 3) := by decide +kernel
theorem dX4_mend_37 : decode cX4_mend 37 = .ok (.goto 42, 3) := by decide +kernel
theorem dX4_mend_40 : decode cX4_mend 40 = .ok (.iload_n 1, 1) := by decide +kernel
theorem dX4_mend_41 : decode cX4_mend 41 = .ok (.iconst 4, 1) := by decide +kernel
theorem dX4_mend_42 : decode cX4_mend 42 = .ok (.if_icmp .ne 23, 3) := by decide +kernel
theorem dX4_mend_45 : decode cX4_mend 45 = .ok (.aload_n 0, 1) := by decide +kernel
theorem dX4_mend_46 : decode cX4_mend 46 = .ok (.getfield 29, 3) := by decide +kernel
theorem dX4_mend_49 : decode cX4_mend 49 = .ok (.aload_n 0, 1) := by decide +kernel
theorem dX4_mend_50 : decode cX4_mend 50 = .ok (.getfield 29, 3) := by decide +kernel
theorem dX4_mend_53 : decode cX4_mend 53 = .ok (.invokevirtual 107, 3) := by decide +kernel
theorem dX4_mend_56 : decode cX4_mend 56 = .ok (.invokestatic 74, 3) := by decide +kernel
theorem dX4_mend_59 : decode cX4_mend 59 = .ok (.putfield 77, 3) := by decide +kernel
theorem dX4_mend_62 : decode cX4_mend 62 = .ok (.goto 17, 3) := by decide +kernel
theorem dX4_mend_65 : decode cX4_mend 65 = .ok (.aload_n 0, 1) := by decide +kernel
theorem dX4_mend_66 : decode cX4_mend 66 = .ok (.getfield 36, 3) := by decide +kernel
theorem dX4_mend_69 : decode cX4_mend 69 = .ok (.aload_n 0, 1) := by decide +kernel
theorem dX4_mend_70 : decode cX4_mend 70 = .ok (.getfield 36, 3) := by decide +kernel
theorem dX4_mend_73 : decode cX4_mend 73 = .ok (.invokevirtual 111, 3) := by decide +kernel
theorem dX4_mend_76 : decode cX4_mend 76 = .ok (.invokevirtual 118, 3) := by decide +kernel
theorem dX4_mend_79 : decode cX4_mend 79 = .ok (.iload_n 2, 1) := by decide +kernel
theorem dX4_mend_80 : decode cX4_mend 80 = .ok (.ireturn, 1) := by decide +kernel
set_option maxRecDepth 20000 in
theorem ggX4_pass_X4_isSubject : GoodIn wsX4_pass wsX4_isSubject := goodIn_r _ [5, 6, 7, 4, 8] (by decide +kernel) (by decide +kernel)
set_option maxRecDepth 20000 in
theorem gX4_pass_X4_isSubject : GoodIn wsX4_pass (va_wsS RX4 91 yX4_isSubject wsX4_isSubject) := goodIn_app (goodIn_of _ (by decide +kernel)) ggX4_pass_X4_isSubject
set_option maxRecDepth 20000 in
theorem ggX4_pass_X4_within : GoodIn wsX4_pass wsX4_within := goodIn_r _ [8] (by decide +kernel) (by decide +kernel)
set_option maxRecDepth 20000 in
theorem gX4_pass_X4_within : GoodIn wsX4_pass (va_wsS RX4 44 yX4_within wsX4_within) := goodIn_app (goodIn_of _ (by decide +kernel)) ggX4_pass_X4_within
set_option maxRecDepth 20000 in
theorem ggX4_pass_X4_passing : GoodIn wsX4_pass wsX4_passing := goodIn_r _ [12, 13, 14, 15, 16, 17, 18, 4, 19, 6, 7, 8, 20, 21, 22, 23, 24, 25, 26, 27, 28, 29, 30, 31, 32, 33, 34, 35, 36, 37, 38, 39, 40, 41, 42, 43, 44, 45, 46, 47, 48, 49, 50, 51, 52, 53, 54, 55, 56, 57, 58, 59, 60, 61, 62, 63, 64, 65, 66, 67, 68, 69, 70, 71, 72, 73, 74, 75, 76, 77, 78, 79, 80, 81, 82, 83, 84, 99, 100, 101, 102, 103, 104, 105, 106, 107, 108] (by decide +kernel) (by decide +kernel)
set_option maxRecDepth 20000 in
theorem gX4_pass_X4_passing : GoodIn wsX4_pass (wsV RX4 123 RX4 yX4_passing wsX4_passing) := goodIn_app (goodIn_of _ (by decide +kernel)) ggX4_pass_X4_passing
set_option maxRecDepth 20000 in
theorem ggX4_pass_X4_looks : GoodIn wsX4_pass wsX4_looks := goodIn_r _ [88, 13, 16, 17, 18, 4, 19, 6, 7, 8, 89, 90, 91, 23, 92, 29, 93, 94, 60, 95, 62, 63, 64, 65, 66, 67, 68, 99, 100, 101, 102, 103, 104, 105, 106] (by decide +kernel) (by decide +kernel)
set_option maxRecDepth 20000 in
theorem gX4_pass_X4_looks : GoodIn wsX4_pass (wsV RX4 126 RX4 yX4_looks wsX4_looks) := goodIn_app (goodIn_of _ (by decide +kernel)) ggX4_pass_X4_looks
set_option maxRecDepth 20000 in
theorem ggX4_pass_X4_lowestTerm : GoodIn wsX4_pass wsX4_lowestTerm := goodIn_r _ [98] (by decide +kernel) (by decide +kernel)
set_option maxRecDepth 20000 in
theorem gX4_pass_X4_lowestTerm : GoodIn wsX4_pass (va_wsS RX4 129 yX4_lowestTerm wsX4_lowestTerm) := goodIn_app (goodIn_of _ (by decide +kernel)) ggX4_pass_X4_lowestTerm
theorem dX4_pass_0 : decode cX4_pass 0 = .ok (.iload_n 1, 1) := by decide +kernel
theorem dX4_pass_1 : decode cX4_pass 1 = .ok (.invokestatic 91, 3) := by decide +kernel
theorem dX4_pass_4 : decode cX4_pass 4 = .ok (.ifCond .eq 12, 3) := by decide +kernel
theorem dX4_pass_7 : decode cX4_pass 7 = .ok (.iload_n 2, 1) := by decide +kernel
theorem dX4_pass_8 : decode cX4_pass 8 = .ok (.iconst 0, 1) := by decide +kernel
theorem dX4_pass_9 : decode cX4_pass 9 = .ok (.iconst 1, 1) := by decide +kernel
theorem dX4_pass_10 : decode cX4_pass 10 = .ok (.invokestatic 44, 3) := by decide +kernel
theorem dX4_pass_13 : decode cX4_pass 13 = .ok (.ifCond .ne 7, 3) := by decide +kernel
theorem dX4_pass_16 : decode cX4_pass 16 = .ok (.ldc2_w 121, 3) := by decide +kernel
theorem dX4_pass_19 : decode cX4_pass 19 = .ok (.lreturn, 1) := by decide +kernel
theorem dX4_pass_20 : decode cX4_pass 20 = .ok (.aload_n 0, 1) := by decide +kernel
theorem dX4_pass_21 : decode cX4_pass 21 = .ok (.iload_n 1, 1) := by decide +kernel
theorem dX4_pass_22 : decode cX4_pass 22 = .ok (.invokevirtual 123, 3) := by decide +kernel
theorem dX4_pass_25 : decode cX4_pass 25 = .ok (.aload_n 0, 1) := by decide +kernel
theorem dX4_pass_26 : decode cX4_pass 26 = .ok (.iload_n 1, 1) := by decide +kernel
theorem dX4_pass_27 : decode cX4_pass 27 = .ok (.invokevirtual 126, 3) := by decide +kernel
theorem dX4_pass_30 : decode cX4_pass 30 = .ok (.iload_n 2, 1) := by decide +kernel
theorem dX4_pass_31 : decode cX4_pass 31 = .ok (.invokestatic 129, 3) := by decide +kernel
theorem dX4_pass_34 : decode cX4_pass 34 = .ok (.i2l, 1) := by decide +kernel
theorem dX4_pass_35 : decode cX4_pass 35 = .ok (.lreturn, 1) := by decide +kernel
set_option maxRecDepth 20000 in
theorem ggX4_repeats_X4_isSubject : GoodIn wsX4_repeats wsX4_isSubject := goodIn_r _ [4, 5, 6, 3, 7] (by decide +kernel) (by decide +kernel)
set_option maxRecDepth 20000 in
theorem gX4_repeats_X4_isSubject : GoodIn wsX4_repeats (va_wsS RX4 91 yX4_isSubject wsX4_isSubject) := goodIn_app (goodIn_of _ (by decide +kernel)) ggX4_repeats_X4_isSubject
set_option maxRecDepth 20000 in
theorem ggX4_repeats_X4_within : GoodIn wsX4_repeats wsX4_within := goodIn_r _ [7] (by decide +kernel) (by decide +kernel)
set_option maxRecDepth 20000 in
theorem gX4_repeats_X4_within : GoodIn wsX4_repeats (va_wsS RX4 44 yX4_within wsX4_within) := goodIn_app (goodIn_of _ (by decide +kernel)) ggX4_repeats_X4_within
set_option maxRecDepth 20000 in
theorem ggX4_repeats_X4_passing : GoodIn wsX4_repeats wsX4_passing := goodIn_r _ [11, 12, 13, 14, 15, 16, 17, 3, 18, 5, 6, 7, 19, 20, 21, 22, 23, 24, 25, 26, 27, 28, 29, 30, 31, 32, 33, 34, 35, 36, 37, 38, 39, 40, 41, 42, 43, 44, 45, 46, 47, 48, 49, 50, 51, 52, 53, 54, 55, 56, 57, 58, 59, 60, 61, 62, 63, 64, 65, 66, 67, 68, 69, 70, 71, 72, 73, 74, 75, 76, 77, 78, 79, 80, 81, 82, 83, 95, 96, 97, 98, 99, 100, 101, 102, 103, 104] (by decide +kernel) (by decide +kernel)
set_option maxRecDepth 20000 in
theorem gX4_repeats_X4_passing : GoodIn wsX4_repeats (wsV RX4 123 RX4 yX4_passing wsX4_passing) := goodIn_app (goodIn_of _ (by decide +kernel)) ggX4_repeats_X4_passing
set_option maxRecDepth 20000 in
theorem ggX4_repeats_X4_looks : GoodIn wsX4_repeats wsX4_looks := goodIn_r _ [87, 12, 15, 16, 17, 3, 18, 5, 6, 7, 88, 89, 90, 22, 91, 28, 92, 93, 59, 94, 61, 62, 63, 64, 65, 66, 67, 95, 96, 97, 98, 99, 100, 101, 102] (by decide +kernel) (by decide +kernel)
set_option maxRecDepth 20000 in
theorem gX4_repeats_X4_looks : GoodIn wsX4_repeats (wsV RX4 126 RX4 yX4_looks wsX4_looks) := goodIn_app (goodIn_of _ (by decide +kernel)) ggX4_repeats_X4_looks
theorem dX4_repeats_0 : decode cX4_repeats 0 = .ok (.iload_n 1, 1) := by decide +kernel
theorem dX4_repeats_1 : decode cX4_repeats 1 = .ok (.invokestatic 91, 3) := by decide +kernel
theorem dX4_repeats_4 : decode cX4_repeats 4 = .ok (.ifCond .eq 22, 3) := by decide +kernel
theorem dX4_repeats_7 : decode cX4_repeats 7 = .ok (.iload_n 3, 1) := by decide +kernel
theorem dX4_repeats_8 : decode cX4_repeats 8 = .ok (.iconst 1, 1) := by decide +kernel
theorem dX4_repeats_9 : decode cX4_repeats 9 = .ok (.bipush 100, 2) := by decide +kernel
theorem dX4_repeats_11 : decode cX4_repeats 11 = .ok (.invokestatic 44, 3) := by decide +kernel
theorem dX4_repeats_14 : decode cX4_repeats 14 = .ok (.ifCond .eq 12, 3) := by decide +kernel
theorem dX4_repeats_17 : decode cX4_repeats 17 = .ok (.iload_n 2, 1) := by decide +kernel
theorem dX4_repeats_18 : decode cX4_repeats 18 = .ok (.iconst 1, 1) := by decide +kernel
theorem dX4_repeats_19 : decode cX4_repeats 19 = .ok (.iload_n 3, 1) := by decide +kernel
theorem dX4_repeats_20 : decode cX4_repeats 20 = .ok (.invokestatic 44, 3) := by decide +kernel
theorem dX4_repeats_23 : decode cX4_repeats 23 = .ok (.ifCond .ne 6, 3) := by decide +kernel
theorem dX4_repeats_26 : decode cX4_repeats 26 = .ok (.bipush (-2), 2) := by decide +kernel
theorem dX4_repeats_28 : decode cX4_repeats 28 = .ok (.ireturn, 1) := by decide +kernel
theorem dX4_repeats_29 : decode cX4_repeats 29 = .ok (.aload_n 0, 1) := by decide +kernel
theorem dX4_repeats_30 : decode cX4_repeats 30 = .ok (.iload_n 1, 1) := by decide +kernel
theorem dX4_repeats_31 : decode cX4_repeats 31 = .ok (.invokevirtual 123, 3) := by decide +kernel
theorem dX4_repeats_34 : decode cX4_repeats 34 = .ok (.i2l, 1) := by decide +kernel
theorem dX4_repeats_35 : decode cX4_repeats 35 = .ok (.lstore 4, 2) := by decide +kernel
theorem dX4_repeats_37 : decode cX4_repeats 37 = .ok (.aload_n 0, 1) := by decide +kernel
theorem dX4_repeats_38 : decode cX4_repeats 38 = .ok (.iload_n 1, 1) := by decide +kernel
theorem dX4_repeats_39 : decode cX4_repeats 39 = .ok (.invokevirtual 126, 3) := by decide +kernel
theorem dX4_repeats_42 : decode cX4_repeats 42 = .ok (.i2l, 1) := by decide +kernel
theorem dX4_repeats_43 : decode cX4_repeats 43 = .ok (.lstore 6, 2) := by decide +kernel
theorem dX4_repeats_45 : decode cX4_repeats 45 = .ok (.lconst 1, 1) := by decide +kernel
theorem dX4_repeats_46 : decode cX4_repeats 46 = .ok (.lstore 8, 2) := by decide +kernel
theorem dX4_repeats_48 : decode cX4_repeats 48 = .ok (.lconst 1, 1) := by decide +kernel
theorem dX4_repeats_49 : decode cX4_repeats 49 = .ok (.lstore 10, 2) := by decide +kernel
theorem dX4_repeats_51 : decode cX4_repeats 51 = .ok (.iconst 1, 1) := by decide +kernel
theorem dX4_repeats_52 : decode cX4_repeats 52 = .ok (.istore 12, 2) := by decide +kernel
theorem dX4_repeats_54 : decode cX4_repeats 54 = .ok (.iload 12, 2) := by decide +kernel
theorem dX4_repeats_56 : decode cX4_repeats 56 = .ok (.bipush 9, 2) := by decide +kernel
theorem dX4_repeats_58 : decode cX4_repeats 58 = .ok (.if_icmp .gt 43, 3) := by decide +kernel
theorem dX4_repeats_61 : decode cX4_repeats 61 = .ok (.lload 8, 2) := by decide +kernel
theorem dX4_repeats_63 : decode cX4_repeats 63 = .ok (.lload 4, 2) := by decide +kernel
theorem dX4_repeats_65 : decode cX4_repeats 65 = .ok (.lmul, 1) := by decide +kernel
theorem dX4_repeats_66 : decode cX4_repeats 66 = .ok (.lstore 8, 2) := by decide +kernel
theorem dX4_repeats_68 : decode cX4_repeats 68 = .ok (.lload 10, 2) := by decide +kernel
theorem dX4_repeats_70 : decode cX4_repeats 70 = .ok (.lload 6, 2) := by decide +kernel
theorem dX4_repeats_72 : decode cX4_repeats 72 = .ok (.lmul, 1) := by decide +kernel
theorem dX4_repeats_73 : decode cX4_repeats 73 = .ok (.lstore 10, 2) := by decide +kernel
theorem dX4_repeats_75 : decode cX4_repeats 75 = .ok (.lload 10, 2) := by decide +kernel
theorem dX4_repeats_77 : decode cX4_repeats 77 = .ok (.lload 8, 2) := by decide +kernel
theorem dX4_repeats_79 : decode cX4_repeats 79 = .ok (.lsub, 1) := by decide +kernel
theorem dX4_repeats_80 : decode cX4_repeats 80 = .ok (.iload_n 3, 1) := by decide +kernel
theorem dX4_repeats_81 : decode cX4_repeats 81 = .ok (.i2l, 1) := by decide +kernel
theorem dX4_repeats_82 : decode cX4_repeats 82 = .ok (.lmul, 1) := by decide +kernel
theorem dX4_repeats_83 : decode cX4_repeats 83 = .ok (.lload 10, 2) := by decide +kernel
theorem dX4_repeats_85 : decode cX4_repeats 85 = .ok (.iload_n 2, 1) := by decide +kernel
theorem dX4_repeats_86 : decode cX4_repeats 86 = .ok (.i2l, 1) := by decide +kernel
theorem dX4_repeats_87 : decode cX4_repeats 87 = .ok (.lmul, 1) := by decide +kernel
theorem dX4_repeats_88 : decode cX4_repeats 88 = .ok (.lcmp, 1) := by decide +kernel
theorem dX4_repeats_89 : decode cX4_repeats 89 = .ok (.ifCond .lt 6, 3) := by decide +kernel
theorem dX4_repeats_92 : decode cX4_repeats 92 = .ok (.iload 12, 2) := by decide +kernel
theorem dX4_repeats_94 : decode cX4_repeats 94 = .ok (.ireturn, 1) := by decide +kernel
theorem dX4_repeats_95 : decode cX4_repeats 95 = .ok (.iinc 12 1, 3) := by decide +kernel
theorem dX4_repeats_98 : decode cX4_repeats 98 = .ok (.goto (-44), 3) := by decide +kernel
theorem dX4_repeats_101 : decode cX4_repeats 101 = .ok (.iconst (-1), 1) := by decide +kernel
theorem dX4_repeats_102 : decode cX4_repeats 102 = .ok (.ireturn, 1) := by decide +kernel
set_option maxRecDepth 20000 in
theorem ggX4_worst_X4_isRow : GoodIn wsX4_worst wsX4_isRow := goodIn_r _ [6, 7, 8, 5, 9] (by decide +kernel) (by decide +kernel)
set_option maxRecDepth 20000 in
theorem gX4_worst_X4_isRow : GoodIn wsX4_worst (va_wsS RX4 97 yX4_isRow wsX4_isRow) := goodIn_app (goodIn_of _ (by decide +kernel)) ggX4_worst_X4_isRow
set_option maxRecDepth 20000 in
theorem ggX4_worst_X4_within : GoodIn wsX4_worst wsX4_within := goodIn_r _ [9] (by decide +kernel) (by decide +kernel)
set_option maxRecDepth 20000 in
theorem gX4_worst_X4_within : GoodIn wsX4_worst (va_wsS RX4 44 yX4_within wsX4_within) := goodIn_app (goodIn_of _ (by decide +kernel)) ggX4_worst_X4_within
set_option maxRecDepth 20000 in
theorem ggX4_worst_X4_worstCode : GoodIn wsX4_worst wsX4_worstCode := goodIn_r _ [13, 1, 2, 14, 15, 16, 17, 18, 19, 20, 21, 22, 23, 24, 25, 26, 27, 28, 29, 30, 31, 32, 33, 34, 35, 36, 37, 38, 39, 40, 41, 42, 43, 44, 45, 46, 47, 48, 49, 50, 51, 52, 53, 54, 55, 56, 57, 58, 59, 60, 61, 62, 63, 64, 65, 66, 67, 68, 69, 70, 71, 72, 73, 74, 75, 76, 77, 78, 79, 80, 81, 82, 83, 84, 85, 86, 87, 88, 89, 90, 91, 92, 93, 94, 95, 96, 97, 105, 106, 107, 108, 109, 110, 111, 112, 113, 114, 115] (by decide +kernel) (by decide +kernel)
set_option maxRecDepth 20000 in
theorem gX4_worst_X4_worstCode : GoodIn wsX4_worst (wsV RX4 133 RX4 yX4_worstCode wsX4_worstCode) := goodIn_app (goodIn_of _ (by decide +kernel)) ggX4_worst_X4_worstCode
set_option maxRecDepth 20000 in
theorem ggX4_worst_X2_spell : GoodIn wsX4_worst wsX2_spell := goodIn_r _ [19, 20, 21, 111, 112] (by decide +kernel) (by decide +kernel)
set_option maxRecDepth 20000 in
theorem gX4_worst_X2_spell : GoodIn wsX4_worst (wsV RX4 136 RX2 yX2_spell wsX2_spell) := goodIn_app (goodIn_of _ (by decide +kernel)) ggX4_worst_X2_spell
set_option maxRecDepth 20000 in
theorem ggX4_worst_X2_passing : GoodIn wsX4_worst wsX2_passing := goodIn_r _ [25, 26, 27, 28, 18, 29, 20, 21, 30, 31, 32, 33, 34, 35, 36, 37, 38, 39, 40, 41, 111, 112] (by decide +kernel) (by decide +kernel)
set_option maxRecDepth 20000 in
theorem gX4_worst_X2_passing : GoodIn wsX4_worst (wsV RX4 139 RX2 yX2_passing wsX2_passing) := goodIn_app (goodIn_of _ (by decide +kernel)) ggX4_worst_X2_passing
set_option maxRecDepth 20000 in
theorem ggX4_worst_X2_looks : GoodIn wsX4_worst wsX2_looks := goodIn_r _ [101, 20, 111, 112] (by decide +kernel) (by decide +kernel)
set_option maxRecDepth 20000 in
theorem gX4_worst_X2_looks : GoodIn wsX4_worst (wsV RX4 140 RX2 yX2_looks wsX2_looks) := goodIn_app (goodIn_of _ (by decide +kernel)) ggX4_worst_X2_looks
set_option maxRecDepth 20000 in
theorem ggX4_worst_X4_lowestTerm : GoodIn wsX4_worst wsX4_lowestTerm := goodIn_r _ [104] (by decide +kernel) (by decide +kernel)
set_option maxRecDepth 20000 in
theorem gX4_worst_X4_lowestTerm : GoodIn wsX4_worst (va_wsS RX4 129 yX4_lowestTerm wsX4_lowestTerm) := goodIn_app (goodIn_of _ (by decide +kernel)) ggX4_worst_X4_lowestTerm
theorem dX4_worst_0 : decode cX4_worst 0 = .ok (.iload_n 1, 1) := by decide +kernel
theorem dX4_worst_1 : decode cX4_worst 1 = .ok (.invokestatic 97, 3) := by decide +kernel
theorem dX4_worst_4 : decode cX4_worst 4 = .ok (.ifCond .eq 23, 3) := by decide +kernel
theorem dX4_worst_7 : decode cX4_worst 7 = .ok (.iload_n 2, 1) := by decide +kernel
theorem dX4_worst_8 : decode cX4_worst 8 = .ok (.iconst 0, 1) := by decide +kernel
theorem dX4_worst_9 : decode cX4_worst 9 = .ok (.bipush 8, 2) := by decide +kernel
theorem dX4_worst_11 : decode cX4_worst 11 = .ok (.invokestatic 44, 3) := by decide +kernel
theorem dX4_worst_14 : decode cX4_worst 14 = .ok (.ifCond .eq 13, 3) := by decide +kernel
theorem dX4_worst_17 : decode cX4_worst 17 = .ok (.iload 4, 2) := by decide +kernel
theorem dX4_worst_19 : decode cX4_worst 19 = .ok (.iconst 0, 1) := by decide +kernel
theorem dX4_worst_20 : decode cX4_worst 20 = .ok (.iconst 2, 1) := by decide +kernel
theorem dX4_worst_21 : decode cX4_worst 21 = .ok (.invokestatic 44, 3) := by decide +kernel
theorem dX4_worst_24 : decode cX4_worst 24 = .ok (.ifCond .ne 6, 3) := by decide +kernel
theorem dX4_worst_27 : decode cX4_worst 27 = .ok (.bipush (-2), 2) := by decide +kernel
theorem dX4_worst_29 : decode cX4_worst 29 = .ok (.ireturn, 1) := by decide +kernel
theorem dX4_worst_30 : decode cX4_worst 30 = .ok (.iload_n 3, 1) := by decide +kernel
theorem dX4_worst_31 : decode cX4_worst 31 = .ok (.iconst 0, 1) := by decide +kernel
theorem dX4_worst_32 : decode cX4_worst 32 = .ok (.iload 4, 2) := by decide +kernel
theorem dX4_worst_34 : decode cX4_worst 34 = .ok (.ifCond .ne 15, 3) := by decide +kernel
theorem dX4_worst_37 : decode cX4_worst 37 = .ok (.aload_n 0, 1) := by decide +kernel
theorem dX4_worst_38 : decode cX4_worst 38 = .ok (.getfield 10, 3) := by decide +kernel
theorem dX4_worst_41 : decode cX4_worst 41 = .ok (.getfield 48, 3) := by decide +kernel
theorem dX4_worst_44 : decode cX4_worst 44 = .ok (.iconst 1, 1) := by decide +kernel
theorem dX4_worst_45 : decode cX4_worst 45 = .ok (.isub, 1) := by decide +kernel
theorem dX4_worst_46 : decode cX4_worst 46 = .ok (.goto 4, 3) := by decide +kernel
theorem dX4_worst_49 : decode cX4_worst 49 = .ok (.iconst 0, 1) := by decide +kernel
theorem dX4_worst_50 : decode cX4_worst 50 = .ok (.invokestatic 44, 3) := by decide +kernel
theorem dX4_worst_53 : decode cX4_worst 53 = .ok (.ifCond .ne 6, 3) := by decide +kernel
theorem dX4_worst_56 : decode cX4_worst 56 = .ok (.bipush (-2), 2) := by decide +kernel
theorem dX4_worst_58 : decode cX4_worst 58 = .ok (.ireturn, 1) := by decide +kernel
theorem dX4_worst_59 : decode cX4_worst 59 = .ok (.aload_n 0, 1) := by decide +kernel
theorem dX4_worst_60 : decode cX4_worst 60 = .ok (.iload_n 1, 1) := by decide +kernel
theorem dX4_worst_61 : decode cX4_worst 61 = .ok (.iload_n 2, 1) := by decide +kernel
theorem dX4_worst_62 : decode cX4_worst 62 = .ok (.invokevirtual 133, 3) := by decide +kernel
theorem dX4_worst_65 : decode cX4_worst 65 = .ok (.istore 5, 2) := by decide +kernel
theorem dX4_worst_67 : decode cX4_worst 67 = .ok (.iload 5, 2) := by decide +kernel
theorem dX4_worst_69 : decode cX4_worst 69 = .ok (.iconst (-1), 1) := by decide +kernel
theorem dX4_worst_70 : decode cX4_worst 70 = .ok (.if_icmp .ne 5, 3) := by decide +kernel
theorem dX4_worst_73 : decode cX4_worst 73 = .ok (.iconst (-1), 1) := by decide +kernel
theorem dX4_worst_74 : decode cX4_worst 74 = .ok (.ireturn, 1) := by decide +kernel
theorem dX4_worst_75 : decode cX4_worst 75 = .ok (.aload_n 0, 1) := by decide +kernel
theorem dX4_worst_76 : decode cX4_worst 76 = .ok (.getfield 16, 3) := by decide +kernel
theorem dX4_worst_79 : decode cX4_worst 79 = .ok (.iload 5, 2) := by decide +kernel
theorem dX4_worst_81 : decode cX4_worst 81 = .ok (.aload_n 0, 1) := by decide +kernel
theorem dX4_worst_82 : decode cX4_worst 82 = .ok (.getfield 10, 3) := by decide +kernel
theorem dX4_worst_85 : decode cX4_worst 85 = .ok (.getfield 48, 3) := by decide +kernel
theorem dX4_worst_88 : decode cX4_worst 88 = .ok (.invokevirtual 136, 3) := by decide +kernel
theorem dX4_worst_91 : decode cX4_worst 91 = .ok (.iload 4, 2) := by decide +kernel
theorem dX4_worst_93 : decode cX4_worst 93 = .ok (.ifCond .ne 13, 3) := by decide +kernel
theorem dX4_worst_96 : decode cX4_worst 96 = .ok (.aload_n 0, 1) := by decide +kernel
theorem dX4_worst_97 : decode cX4_worst 97 = .ok (.getfield 16, 3) := by decide +kernel
theorem dX4_worst_100 : decode cX4_worst 100 = .ok (.getfield 59, 3) := by decide +kernel
theorem dX4_worst_103 : decode cX4_worst 103 = .ok (.iload_n 3, 1) := by decide +kernel
theorem dX4_worst_104 : decode cX4_worst 104 = .ok (.iaload, 1) := by decide +kernel
theorem dX4_worst_105 : decode cX4_worst 105 = .ok (.ireturn, 1) := by decide +kernel
theorem dX4_worst_106 : decode cX4_worst 106 = .ok (.aload_n 0, 1) := by decide +kernel
theorem dX4_worst_107 : decode cX4_worst 107 = .ok (.getfield 16, 3) := by decide +kernel
theorem dX4_worst_110 : decode cX4_worst 110 = .ok (.iload_n 1, 1) := by decide +kernel
theorem dX4_worst_111 : decode cX4_worst 111 = .ok (.invokevirtual 139, 3) := by decide +kernel
theorem dX4_worst_114 : decode cX4_worst 114 = .ok (.aload_n 0, 1) := by decide +kernel
theorem dX4_worst_115 : decode cX4_worst 115 = .ok (.getfield 16, 3) := by decide +kernel
theorem dX4_worst_118 : decode cX4_worst 118 = .ok (.iload_n 1, 1) := by decide +kernel
theorem dX4_worst_119 : decode cX4_worst 119 = .ok (.invokevirtual 140, 3) := by decide +kernel
theorem dX4_worst_122 : decode cX4_worst 122 = .ok (.iload 4, 2) := by decide +kernel
theorem dX4_worst_124 : decode cX4_worst 124 = .ok (.iconst 1, 1) := by decide +kernel
theorem dX4_worst_125 : decode cX4_worst 125 = .ok (.isub, 1) := by decide +kernel
theorem dX4_worst_126 : decode cX4_worst 126 = .ok (.invokestatic 129, 3) := by decide +kernel
theorem dX4_worst_129 : decode cX4_worst 129 = .ok (.ireturn, 1) := by decide +kernel
set_option maxRecDepth 20000 in
theorem ggX4_mended_X4_isEntry : GoodIn wsX4_mended wsX4_isEntry := goodIn_r _ [5, 6, 7, 4, 8] (by decide +kernel) (by decide +kernel)
set_option maxRecDepth 20000 in
theorem gX4_mended_X4_isEntry : GoodIn wsX4_mended (va_wsS RX4 63 yX4_isEntry wsX4_isEntry) := goodIn_app (goodIn_of _ (by decide +kernel)) ggX4_mended_X4_isEntry
set_option maxRecDepth 20000 in
theorem ggX4_mended_X4_within : GoodIn wsX4_mended wsX4_within := goodIn_r _ [8] (by decide +kernel) (by decide +kernel)
set_option maxRecDepth 20000 in
theorem gX4_mended_X4_within : GoodIn wsX4_mended (va_wsS RX4 44 yX4_within wsX4_within) := goodIn_app (goodIn_of _ (by decide +kernel)) ggX4_mended_X4_within
set_option maxRecDepth 20000 in
theorem ggX4_mended_X3_tellers : GoodIn wsX4_mended wsX3_tellers := goodIn_r _ [13, 14, 15, 16, 12, 17, 18, 25] (by decide +kernel) (by decide +kernel)
set_option maxRecDepth 20000 in
theorem gX4_mended_X3_tellers : GoodIn wsX4_mended (wsV RX4 141 RX3 yX3_tellers wsX3_tellers) := goodIn_app (goodIn_of _ (by decide +kernel)) ggX4_mended_X3_tellers
theorem dX4_mended_0 : decode cX4_mended 0 = .ok (.iload_n 1, 1) := by decide +kernel
theorem dX4_mended_1 : decode cX4_mended 1 = .ok (.invokestatic 63, 3) := by decide +kernel
theorem dX4_mended_4 : decode cX4_mended 4 = .ok (.ifCond .eq 12, 3) := by decide +kernel
theorem dX4_mended_7 : decode cX4_mended 7 = .ok (.iload_n 2, 1) := by decide +kernel
theorem dX4_mended_8 : decode cX4_mended 8 = .ok (.iconst 0, 1) := by decide +kernel
theorem dX4_mended_9 : decode cX4_mended 9 = .ok (.iconst 1, 1) := by decide +kernel
theorem dX4_mended_10 : decode cX4_mended 10 = .ok (.invokestatic 44, 3) := by decide +kernel
theorem dX4_mended_13 : decode cX4_mended 13 = .ok (.ifCond .ne 6, 3) := by decide +kernel
theorem dX4_mended_16 : decode cX4_mended 16 = .ok (.bipush (-2), 2) := by decide +kernel
theorem dX4_mended_18 : decode cX4_mended 18 = .ok (.ireturn, 1) := by decide +kernel
theorem dX4_mended_19 : decode cX4_mended 19 = .ok (.aload_n 0, 1) := by decide +kernel
theorem dX4_mended_20 : decode cX4_mended 20 = .ok (.getfield 29, 3) := by decide +kernel
theorem dX4_mended_23 : decode cX4_mended 23 = .ok (.iload_n 1, 1) := by decide +kernel
theorem dX4_mended_24 : decode cX4_mended 24 = .ok (.iload_n 2, 1) := by decide +kernel
theorem dX4_mended_25 : decode cX4_mended 25 = .ok (.invokevirtual 141, 3) := by decide +kernel
theorem dX4_mended_28 : decode cX4_mended 28 = .ok (.ireturn, 1) := by decide +kernel
set_option maxRecDepth 20000 in
theorem ggX4_shows_X4_isLook : GoodIn wsX4_shows wsX4_isLook := goodIn_r _ [5, 6, 7, 8, 9, 4, 10, 11, 12, 13, 14, 15, 16, 17, 18, 19, 20, 21, 22, 23, 24, 59, 60, 61, 62, 63, 64, 65, 66] (by decide +kernel) (by decide +kernel)
set_option maxRecDepth 20000 in
theorem gX4_shows_X4_isLook : GoodIn wsX4_shows (wsV RX4 144 RX4 yX4_isLook wsX4_isLook) := goodIn_app (goodIn_of _ (by decide +kernel)) ggX4_shows_X4_isLook
set_option maxRecDepth 20000 in
theorem ggX4_shows_X4_fails : GoodIn wsX4_shows wsX4_fails := goodIn_r _ [28, 11, 29, 30, 31, 32, 33, 34, 35, 36, 37, 38, 39, 40, 41, 42, 43, 44, 45, 46, 47, 48, 49, 50, 51, 52, 53, 54, 55, 56, 57, 58, 19, 20, 21, 22, 23, 24, 59, 60, 61, 62, 63, 64, 65, 66, 67, 68] (by decide +kernel) (by decide +kernel)
set_option maxRecDepth 20000 in
theorem gX4_shows_X4_fails : GoodIn wsX4_shows (wsV RX4 147 RX4 yX4_fails wsX4_fails) := goodIn_app (goodIn_of _ (by decide +kernel)) ggX4_shows_X4_fails
theorem dX4_shows_0 : decode cX4_shows 0 = .ok (.aload_n 0, 1) := by decide +kernel
theorem dX4_shows_1 : decode cX4_shows 1 = .ok (.iload_n 1, 1) := by decide +kernel
theorem dX4_shows_2 : decode cX4_shows 2 = .ok (.iload_n 2, 1) := by decide +kernel
theorem dX4_shows_3 : decode cX4_shows 3 = .ok (.iload_n 3, 1) := by decide +kernel
theorem dX4_shows_4 : decode cX4_shows 4 = .ok (.invokevirtual 144, 3) := by decide +kernel
theorem dX4_shows_7 : decode cX4_shows 7 = .ok (.ifCond .ne 6, 3) := by decide +kernel
theorem dX4_shows_10 : decode cX4_shows 10 = .ok (.bipush (-2), 2) := by decide +kernel
theorem dX4_shows_12 : decode cX4_shows 12 = .ok (.ireturn, 1) := by decide +kernel
theorem dX4_shows_13 : decode cX4_shows 13 = .ok (.aload_n 0, 1) := by decide +kernel
theorem dX4_shows_14 : decode cX4_shows 14 = .ok (.iload_n 1, 1) := by decide +kernel
theorem dX4_shows_15 : decode cX4_shows 15 = .ok (.iload_n 2, 1) := by decide +kernel
theorem dX4_shows_16 : decode cX4_shows 16 = .ok (.iload_n 3, 1) := by decide +kernel
theorem dX4_shows_17 : decode cX4_shows 17 = .ok (.invokevirtual 147, 3) := by decide +kernel
theorem dX4_shows_20 : decode cX4_shows 20 = .ok (.ifCond .eq 7, 3) := by decide +kernel
theorem dX4_shows_23 : decode cX4_shows 23 = .ok (.iconst 1, 1) := by decide +kernel
theorem dX4_shows_24 : decode cX4_shows 24 = .ok (.goto 4, 3) := by decide +kernel
theorem dX4_shows_27 : decode cX4_shows 27 = .ok (.iconst 0, 1) := by decide +kernel
theorem dX4_shows_28 : decode cX4_shows 28 = .ok (.ireturn, 1) := by decide +kernel
set_option maxRecDepth 20000 in
theorem ggX4_witness_X4_firstFailingSet : GoodIn wsX4_witness wsX4_firstFailingSet := goodIn_r _ [5, 6, 7, 8, 4, 9, 10, 11, 12, 13, 14, 15, 16, 17, 18, 19, 20, 21, 22, 23, 24, 25, 26, 27, 28, 29, 30, 31, 32, 33, 34, 35, 36, 37, 38, 39, 40, 41, 42, 43, 44, 45, 46, 47, 48, 49, 50, 51, 52, 53, 54, 55, 56, 57, 58, 59, 60, 61, 62, 67, 68, 69, 70, 71, 72, 73, 74, 75, 76] (by decide +kernel) (by decide +kernel)
set_option maxRecDepth 20000 in
theorem gX4_witness_X4_firstFailingSet : GoodIn wsX4_witness (wsV RX4 150 RX4 yX4_firstFailingSet wsX4_firstFailingSet) := goodIn_app (goodIn_of _ (by decide +kernel)) ggX4_witness_X4_firstFailingSet
set_option maxRecDepth 20000 in
theorem ggX4_witness_X4_firstFailingPair : GoodIn wsX4_witness wsX4_firstFailingPair := goodIn_r _ [66, 6, 7, 8, 4, 9, 10, 11, 12, 13, 14, 15, 16, 17, 18, 19, 20, 21, 22, 23, 24, 25, 26, 27, 28, 29, 30, 31, 32, 33, 34, 35, 36, 37, 38, 39, 40, 41, 42, 43, 44, 45, 46, 47, 48, 49, 50, 51, 52, 53, 54, 55, 56, 57, 58, 59, 60, 61, 62, 67, 68, 69, 70, 71, 72, 73, 74, 75, 76] (by decide +kernel) (by decide +kernel)
set_option maxRecDepth 20000 in
theorem gX4_witness_X4_firstFailingPair : GoodIn wsX4_witness (wsV RX4 153 RX4 yX4_firstFailingPair wsX4_firstFailingPair) := goodIn_app (goodIn_of _ (by decide +kernel)) ggX4_witness_X4_firstFailingPair
theorem dX4_witness_0 : decode cX4_witness 0 = .ok (.iload_n 1, 1) := by decide +kernel
theorem dX4_witness_1 : decode cX4_witness 1 = .ok (.iconst 5, 1) := by decide +kernel
theorem dX4_witness_2 : decode cX4_witness 2 = .ok (.if_icmp .ne 8, 3) := by decide +kernel
theorem dX4_witness_5 : decode cX4_witness 5 = .ok (.aload_n 0, 1) := by decide +kernel
theorem dX4_witness_6 : decode cX4_witness 6 = .ok (.invokevirtual 150, 3) := by decide +kernel
theorem dX4_witness_9 : decode cX4_witness 9 = .ok (.ireturn, 1) := by decide +kernel
theorem dX4_witness_10 : decode cX4_witness 10 = .ok (.iload_n 1, 1) := by decide +kernel
theorem dX4_witness_11 : decode cX4_witness 11 = .ok (.ifCond .eq 8, 3) := by decide +kernel
theorem dX4_witness_14 : decode cX4_witness 14 = .ok (.iload_n 1, 1) := by decide +kernel
theorem dX4_witness_15 : decode cX4_witness 15 = .ok (.iconst 4, 1) := by decide +kernel
theorem dX4_witness_16 : decode cX4_witness 16 = .ok (.if_icmp .ne 9, 3) := by decide +kernel
theorem dX4_witness_19 : decode cX4_witness 19 = .ok (.aload_n 0, 1) := by decide +kernel
theorem dX4_witness_20 : decode cX4_witness 20 = .ok (.iload_n 1, 1) := by decide +kernel
theorem dX4_witness_21 : decode cX4_witness 21 = .ok (.invokevirtual 153, 3) := by decide +kernel
theorem dX4_witness_24 : decode cX4_witness 24 = .ok (.ireturn, 1) := by decide +kernel
theorem dX4_witness_25 : decode cX4_witness 25 = .ok (.bipush (-2), 2) := by decide +kernel
theorem dX4_witness_27 : decode cX4_witness 27 = .ok (.ireturn, 1) := by decide +kernel
set_option maxRecDepth 20000 in
theorem ggX4_count_X1_lines : GoodIn wsX4_count wsX1_lines := goodIn_r _ [9, 10, 11, 12, 8, 13, 14, 15, 16, 17, 18, 19, 20, 21, 22, 23, 24, 42] (by decide +kernel) (by decide +kernel)
set_option maxRecDepth 20000 in
theorem gX4_count_X1_lines : GoodIn wsX4_count (wsV RX4 156 RX1 yX1_lines wsX1_lines) := goodIn_app (goodIn_of _ (by decide +kernel)) ggX4_count_X1_lines
set_option maxRecDepth 20000 in
theorem ggX4_count_J6_bitCount_0f7a4 : GoodIn wsX4_count wsJ6_bitCount_0f7a4 := goodIn_r _ [21, 22, 23, 24] (by decide +kernel) (by decide +kernel)
set_option maxRecDepth 20000 in
theorem gX4_count_J6_bitCount_0f7a4 : GoodIn wsX4_count (va_wsS RX4 159 yJ6_bitCount_0f7a4 wsJ6_bitCount_0f7a4) := goodIn_app (goodIn_of _ (by decide +kernel)) ggX4_count_J6_bitCount_0f7a4
set_option maxRecDepth 20000 in
theorem ggX4_count_X2_total : GoodIn wsX4_count wsX2_total := goodIn_r _ [30, 31, 32, 39, 40] (by decide +kernel) (by decide +kernel)
set_option maxRecDepth 20000 in
theorem gX4_count_X2_total : GoodIn wsX4_count (wsV RX4 164 RX2 yX2_total wsX2_total) := goodIn_app (goodIn_of _ (by decide +kernel)) ggX4_count_X2_total
theorem dX4_count_0 : decode cX4_count 0 = .ok (.iload_n 1, 1) := by decide +kernel
theorem dX4_count_1 : decode cX4_count 1 = .ok (.tableswitch 75 0 4 #[35, 43, 48, 56, 67], 35) := by decide +kernel
theorem dX4_count_36 : decode cX4_count 36 = .ok (.aload_n 0, 1) := by decide +kernel
theorem dX4_count_37 : decode cX4_count 37 = .ok (.getfield 10, 3) := by decide +kernel
theorem dX4_count_40 : decode cX4_count 40 = .ok (.getfield 48, 3) := by decide +kernel
theorem dX4_count_43 : decode cX4_count 43 = .ok (.ireturn, 1) := by decide +kernel
theorem dX4_count_44 : decode cX4_count 44 = .ok (.aload_n 0, 1) := by decide +kernel
theorem dX4_count_45 : decode cX4_count 45 = .ok (.getfield 40, 3) := by decide +kernel
theorem dX4_count_48 : decode cX4_count 48 = .ok (.ireturn, 1) := by decide +kernel
theorem dX4_count_49 : decode cX4_count 49 = .ok (.aload_n 0, 1) := by decide +kernel
theorem dX4_count_50 : decode cX4_count 50 = .ok (.getfield 36, 3) := by decide +kernel
theorem dX4_count_53 : decode cX4_count 53 = .ok (.invokevirtual 156, 3) := by decide +kernel
theorem dX4_count_56 : decode cX4_count 56 = .ok (.ireturn, 1) := by decide +kernel
theorem dX4_count_57 : decode cX4_count 57 = .ok (.aload_n 0, 1) := by decide +kernel
theorem dX4_count_58 : decode cX4_count 58 = .ok (.getfield 29, 3) := by decide +kernel
theorem dX4_count_61 : decode cX4_count 61 = .ok (.getfield 77, 3) := by decide +kernel
theorem dX4_count_64 : decode cX4_count 64 = .ok (.invokestatic 159, 3) := by decide +kernel
theorem dX4_count_67 : decode cX4_count 67 = .ok (.ireturn, 1) := by decide +kernel
theorem dX4_count_68 : decode cX4_count 68 = .ok (.aload_n 0, 1) := by decide +kernel
theorem dX4_count_69 : decode cX4_count 69 = .ok (.getfield 10, 3) := by decide +kernel
theorem dX4_count_72 : decode cX4_count 72 = .ok (.invokevirtual 164, 3) := by decide +kernel
theorem dX4_count_75 : decode cX4_count 75 = .ok (.ireturn, 1) := by decide +kernel
theorem dX4_count_76 : decode cX4_count 76 = .ok (.bipush (-2), 2) := by decide +kernel
theorem dX4_count_78 : decode cX4_count 78 = .ok (.ireturn, 1) := by decide +kernel
theorem dX4_within_0 : decode cX4_within 0 = .ok (.iload_n 0, 1) := by decide +kernel
theorem dX4_within_1 : decode cX4_within 1 = .ok (.iload_n 1, 1) := by decide +kernel
theorem dX4_within_2 : decode cX4_within 2 = .ok (.if_icmp .lt 12, 3) := by decide +kernel
theorem dX4_within_5 : decode cX4_within 5 = .ok (.iload_n 0, 1) := by decide +kernel
theorem dX4_within_6 : decode cX4_within 6 = .ok (.iload_n 2, 1) := by decide +kernel
theorem dX4_within_7 : decode cX4_within 7 = .ok (.if_icmp .gt 7, 3) := by decide +kernel
theorem dX4_within_10 : decode cX4_within 10 = .ok (.iconst 1, 1) := by decide +kernel
theorem dX4_within_11 : decode cX4_within 11 = .ok (.goto 4, 3) := by decide +kernel
theorem dX4_within_14 : decode cX4_within 14 = .ok (.iconst 0, 1) := by decide +kernel
theorem dX4_within_15 : decode cX4_within 15 = .ok (.ireturn, 1) := by decide +kernel
set_option maxRecDepth 20000 in
theorem ggX4_isSubject_X4_within : GoodIn wsX4_isSubject wsX4_within := goodIn_r _ [4] (by decide +kernel) (by decide +kernel)
set_option maxRecDepth 20000 in
theorem gX4_isSubject_X4_within : GoodIn wsX4_isSubject (va_wsS RX4 44 yX4_within wsX4_within) := goodIn_app (goodIn_of _ (by decide +kernel)) ggX4_isSubject_X4_within
theorem dX4_isSubject_0 : decode cX4_isSubject 0 = .ok (.iload_n 0, 1) := by decide +kernel
theorem dX4_isSubject_1 : decode cX4_isSubject 1 = .ok (.iconst 0, 1) := by decide +kernel
theorem dX4_isSubject_2 : decode cX4_isSubject 2 = .ok (.iconst 5, 1) := by decide +kernel
theorem dX4_isSubject_3 : decode cX4_isSubject 3 = .ok (.invokestatic 44, 3) := by decide +kernel
theorem dX4_isSubject_6 : decode cX4_isSubject 6 = .ok (.ireturn, 1) := by decide +kernel
set_option maxRecDepth 20000 in
theorem ggX4_isRow_X4_within : GoodIn wsX4_isRow wsX4_within := goodIn_r _ [4] (by decide +kernel) (by decide +kernel)
set_option maxRecDepth 20000 in
theorem gX4_isRow_X4_within : GoodIn wsX4_isRow (va_wsS RX4 44 yX4_within wsX4_within) := goodIn_app (goodIn_of _ (by decide +kernel)) ggX4_isRow_X4_within
theorem dX4_isRow_0 : decode cX4_isRow 0 = .ok (.iload_n 0, 1) := by decide +kernel
theorem dX4_isRow_1 : decode cX4_isRow 1 = .ok (.iconst 0, 1) := by decide +kernel
theorem dX4_isRow_2 : decode cX4_isRow 2 = .ok (.iconst 3, 1) := by decide +kernel
theorem dX4_isRow_3 : decode cX4_isRow 3 = .ok (.invokestatic 44, 3) := by decide +kernel
theorem dX4_isRow_6 : decode cX4_isRow 6 = .ok (.ireturn, 1) := by decide +kernel
set_option maxRecDepth 20000 in
theorem ggX4_isEntry_X4_within : GoodIn wsX4_isEntry wsX4_within := goodIn_r _ [4] (by decide +kernel) (by decide +kernel)
set_option maxRecDepth 20000 in
theorem gX4_isEntry_X4_within : GoodIn wsX4_isEntry (va_wsS RX4 44 yX4_within wsX4_within) := goodIn_app (goodIn_of _ (by decide +kernel)) ggX4_isEntry_X4_within
theorem dX4_isEntry_0 : decode cX4_isEntry 0 = .ok (.iload_n 0, 1) := by decide +kernel
theorem dX4_isEntry_1 : decode cX4_isEntry 1 = .ok (.iconst 0, 1) := by decide +kernel
theorem dX4_isEntry_2 : decode cX4_isEntry 2 = .ok (.bipush 7, 2) := by decide +kernel
theorem dX4_isEntry_4 : decode cX4_isEntry 4 = .ok (.invokestatic 44, 3) := by decide +kernel
theorem dX4_isEntry_7 : decode cX4_isEntry 7 = .ok (.ireturn, 1) := by decide +kernel
set_option maxRecDepth 20000 in
theorem ggX4_isPoint_X4_within : GoodIn wsX4_isPoint wsX4_within := goodIn_r _ [4] (by decide +kernel) (by decide +kernel)
set_option maxRecDepth 20000 in
theorem gX4_isPoint_X4_within : GoodIn wsX4_isPoint (va_wsS RX4 44 yX4_within wsX4_within) := goodIn_app (goodIn_of _ (by decide +kernel)) ggX4_isPoint_X4_within
theorem dX4_isPoint_0 : decode cX4_isPoint 0 = .ok (.iload_n 0, 1) := by decide +kernel
theorem dX4_isPoint_1 : decode cX4_isPoint 1 = .ok (.iconst 0, 1) := by decide +kernel
theorem dX4_isPoint_2 : decode cX4_isPoint 2 = .ok (.iconst 5, 1) := by decide +kernel
theorem dX4_isPoint_3 : decode cX4_isPoint 3 = .ok (.invokestatic 44, 3) := by decide +kernel
theorem dX4_isPoint_6 : decode cX4_isPoint 6 = .ok (.ireturn, 1) := by decide +kernel
set_option maxRecDepth 20000 in
theorem ggX4_isPlace_X4_within : GoodIn wsX4_isPlace wsX4_within := goodIn_r _ [5] (by decide +kernel) (by decide +kernel)
set_option maxRecDepth 20000 in
theorem gX4_isPlace_X4_within : GoodIn wsX4_isPlace (va_wsS RX4 44 yX4_within wsX4_within) := goodIn_app (goodIn_of _ (by decide +kernel)) ggX4_isPlace_X4_within
theorem dX4_isPlace_0 : decode cX4_isPlace 0 = .ok (.iload_n 1, 1) := by decide +kernel
theorem dX4_isPlace_1 : decode cX4_isPlace 1 = .ok (.iconst 0, 1) := by decide +kernel
theorem dX4_isPlace_2 : decode cX4_isPlace 2 = .ok (.aload_n 0, 1) := by decide +kernel
theorem dX4_isPlace_3 : decode cX4_isPlace 3 = .ok (.getfield 10, 3) := by decide +kernel
theorem dX4_isPlace_6 : decode cX4_isPlace 6 = .ok (.getfield 48, 3) := by decide +kernel
theorem dX4_isPlace_9 : decode cX4_isPlace 9 = .ok (.iconst 1, 1) := by decide +kernel
theorem dX4_isPlace_10 : decode cX4_isPlace 10 = .ok (.isub, 1) := by decide +kernel
theorem dX4_isPlace_11 : decode cX4_isPlace 11 = .ok (.invokestatic 44, 3) := by decide +kernel
theorem dX4_isPlace_14 : decode cX4_isPlace 14 = .ok (.ireturn, 1) := by decide +kernel
set_option maxRecDepth 20000 in
theorem ggX4_howFar_X4_isRow : GoodIn wsX4_howFar wsX4_isRow := goodIn_r _ [8, 9, 10, 7, 11] (by decide +kernel) (by decide +kernel)
set_option maxRecDepth 20000 in
theorem gX4_howFar_X4_isRow : GoodIn wsX4_howFar (va_wsS RX4 97 yX4_isRow wsX4_isRow) := goodIn_app (goodIn_of _ (by decide +kernel)) ggX4_howFar_X4_isRow
set_option maxRecDepth 20000 in
theorem ggX4_howFar_X0_seek : GoodIn wsX4_howFar wsX0_seek := goodIn_r _ [16, 17, 18, 19, 20, 21, 22, 23, 24, 25, 26, 27, 15, 28, 29, 30, 31, 32, 33, 34, 35, 36, 37, 38, 39, 40, 41, 42, 43, 44, 45, 46, 47, 48, 49, 50, 51, 52, 53, 54, 55, 56, 57, 58, 59, 60, 61, 62, 63, 64, 65, 66, 67, 68, 69, 70, 71, 72, 73, 120, 121, 122, 123, 124] (by decide +kernel) (by decide +kernel)
set_option maxRecDepth 20000 in
theorem gX4_howFar_X0_seek : GoodIn wsX4_howFar (wsV RX4 100 RX0 yX0_seek wsX0_seek) := goodIn_app (goodIn_of _ (by decide +kernel)) ggX4_howFar_X0_seek
set_option maxRecDepth 20000 in
theorem ggX4_howFar_X3_closest : GoodIn wsX4_howFar wsX3_closest := goodIn_r _ [78, 79, 80, 81, 77, 82, 83, 84, 85, 86, 87, 88, 89, 90, 91, 92, 93, 125] (by decide +kernel) (by decide +kernel)
set_option maxRecDepth 20000 in
theorem gX4_howFar_X3_closest : GoodIn wsX4_howFar (wsV RX4 107 RX3 yX3_closest wsX3_closest) := goodIn_app (goodIn_of _ (by decide +kernel)) ggX4_howFar_X3_closest
set_option maxRecDepth 20000 in
theorem ggX4_howFar_X3_differing : GoodIn wsX4_howFar wsX3_differing := goodIn_r _ [82, 83, 84, 85, 77, 86, 87, 88, 89, 90, 91, 92, 93, 125] (by decide +kernel) (by decide +kernel)
set_option maxRecDepth 20000 in
theorem gX4_howFar_X3_differing : GoodIn wsX4_howFar (wsV RX4 167 RX3 yX3_differing wsX3_differing) := goodIn_app (goodIn_of _ (by decide +kernel)) ggX4_howFar_X3_differing
set_option maxRecDepth 20000 in
theorem ggX4_howFar_X1_bestColouring : GoodIn wsX4_howFar wsX1_bestColouring := goodIn_r _ [99, 100, 101, 102, 98, 103, 104, 105, 106, 107, 108, 109, 110, 111, 112, 88, 89, 90, 91, 92, 93, 126] (by decide +kernel) (by decide +kernel)
set_option maxRecDepth 20000 in
theorem gX4_howFar_X1_bestColouring : GoodIn wsX4_howFar (wsV RX4 111 RX1 yX1_bestColouring wsX1_bestColouring) := goodIn_app (goodIn_of _ (by decide +kernel)) ggX4_howFar_X1_bestColouring
set_option maxRecDepth 20000 in
theorem ggX4_howFar_X1_likeLines : GoodIn wsX4_howFar wsX1_likeLines := goodIn_r _ [107, 108, 109, 110, 98, 111, 112, 88, 89, 90, 91, 92, 93, 126] (by decide +kernel) (by decide +kernel)
set_option maxRecDepth 20000 in
theorem gX4_howFar_X1_likeLines : GoodIn wsX4_howFar (wsV RX4 170 RX1 yX1_likeLines wsX1_likeLines) := goodIn_app (goodIn_of _ (by decide +kernel)) ggX4_howFar_X1_likeLines
theorem dX4_howFar_0 : decode cX4_howFar 0 = .ok (.iload_n 1, 1) := by decide +kernel
theorem dX4_howFar_1 : decode cX4_howFar 1 = .ok (.invokestatic 97, 3) := by decide +kernel
theorem dX4_howFar_4 : decode cX4_howFar 4 = .ok (.ifCond .eq 16, 3) := by decide +kernel
theorem dX4_howFar_7 : decode cX4_howFar 7 = .ok (.aload_n 0, 1) := by decide +kernel
theorem dX4_howFar_8 : decode cX4_howFar 8 = .ok (.getfield 22, 3) := by decide +kernel
theorem dX4_howFar_11 : decode cX4_howFar 11 = .ok (.aload_n 0, 1) := by decide +kernel
theorem dX4_howFar_12 : decode cX4_howFar 12 = .ok (.getfield 10, 3) := by decide +kernel
theorem dX4_howFar_15 : decode cX4_howFar 15 = .ok (.iload_n 1, 1) := by decide +kernel
theorem dX4_howFar_16 : decode cX4_howFar 16 = .ok (.invokevirtual 100, 3) := by decide +kernel
theorem dX4_howFar_19 : decode cX4_howFar 19 = .ok (.ireturn, 1) := by decide +kernel
theorem dX4_howFar_20 : decode cX4_howFar 20 = .ok (.iload_n 1, 1) := by decide +kernel
theorem dX4_howFar_21 : decode cX4_howFar 21 = .ok (.iconst 4, 1) := by decide +kernel
theorem dX4_howFar_22 : decode cX4_howFar 22 = .ok (.if_icmp .ne 18, 3) := by decide +kernel
theorem dX4_howFar_25 : decode cX4_howFar 25 = .ok (.aload_n 0, 1) := by decide +kernel
theorem dX4_howFar_26 : decode cX4_howFar 26 = .ok (.getfield 29, 3) := by decide +kernel
theorem dX4_howFar_29 : decode cX4_howFar 29 = .ok (.aload_n 0, 1) := by decide +kernel
theorem dX4_howFar_30 : decode cX4_howFar 30 = .ok (.getfield 29, 3) := by decide +kernel
theorem dX4_howFar_33 : decode cX4_howFar 33 = .ok (.invokevirtual 107, 3) := by decide +kernel
theorem dX4_howFar_36 : decode cX4_howFar 36 = .ok (.invokevirtual 167, 3) := by decide +kernel
theorem dX4_howFar_39 : decode cX4_howFar 39 = .ok (.ireturn, 1) := by decide +kernel
theorem dX4_howFar_40 : decode cX4_howFar 40 = .ok (.aload_n 0, 1) := by decide +kernel
theorem dX4_howFar_41 : decode cX4_howFar 41 = .ok (.getfield 36, 3) := by decide +kernel
theorem dX4_howFar_44 : decode cX4_howFar 44 = .ok (.bipush 63, 2) := by decide +kernel
theorem dX4_howFar_46 : decode cX4_howFar 46 = .ok (.aload_n 0, 1) := by decide +kernel
theorem dX4_howFar_47 : decode cX4_howFar 47 = .ok (.getfield 36, 3) := by decide +kernel
theorem dX4_howFar_50 : decode cX4_howFar 50 = .ok (.invokevirtual 111, 3) := by decide +kernel
theorem dX4_howFar_53 : decode cX4_howFar 53 = .ok (.invokevirtual 170, 3) := by decide +kernel
theorem dX4_howFar_56 : decode cX4_howFar 56 = .ok (.ireturn, 1) := by decide +kernel
set_option maxRecDepth 20000 in
theorem ggX4_passing_X4_isRow : GoodIn wsX4_passing wsX4_isRow := goodIn_r _ [8, 9, 10, 7, 11] (by decide +kernel) (by decide +kernel)
set_option maxRecDepth 20000 in
theorem gX4_passing_X4_isRow : GoodIn wsX4_passing (va_wsS RX4 97 yX4_isRow wsX4_isRow) := goodIn_app (goodIn_of _ (by decide +kernel)) ggX4_passing_X4_isRow
set_option maxRecDepth 20000 in
theorem ggX4_passing_X2_passing : GoodIn wsX4_passing wsX2_passing := goodIn_r _ [16, 17, 18, 19, 15, 20, 21, 22, 23, 24, 25, 26, 27, 28, 29, 30, 31, 32, 33, 34, 83, 84] (by decide +kernel) (by decide +kernel)
set_option maxRecDepth 20000 in
theorem gX4_passing_X2_passing : GoodIn wsX4_passing (wsV RX4 139 RX2 yX2_passing wsX2_passing) := goodIn_app (goodIn_of _ (by decide +kernel)) ggX4_passing_X2_passing
set_option maxRecDepth 20000 in
theorem ggX4_passing_X3_passing : GoodIn wsX4_passing wsX3_passing := goodIn_r _ [39, 40, 41, 42, 38, 43, 44, 45, 46, 47, 48, 85] (by decide +kernel) (by decide +kernel)
set_option maxRecDepth 20000 in
theorem gX4_passing_X3_passing : GoodIn wsX4_passing (wsV RX4 173 RX3 yX3_passing wsX3_passing) := goodIn_app (goodIn_of _ (by decide +kernel)) ggX4_passing_X3_passing
set_option maxRecDepth 20000 in
theorem ggX4_passing_X1_passing : GoodIn wsX4_passing wsX1_passing := goodIn_r _ [53, 54, 55, 56, 57, 58, 59, 60, 61, 62, 63, 52, 64, 65, 66, 67, 68, 69, 70, 71, 72, 73, 74, 75, 76, 86] (by decide +kernel) (by decide +kernel)
set_option maxRecDepth 20000 in
theorem gX4_passing_X1_passing : GoodIn wsX4_passing (wsV RX4 175 RX1 yX1_passing wsX1_passing) := goodIn_app (goodIn_of _ (by decide +kernel)) ggX4_passing_X1_passing
theorem dX4_passing_0 : decode cX4_passing 0 = .ok (.iload_n 1, 1) := by decide +kernel
theorem dX4_passing_1 : decode cX4_passing 1 = .ok (.invokestatic 97, 3) := by decide +kernel
theorem dX4_passing_4 : decode cX4_passing 4 = .ok (.ifCond .eq 12, 3) := by decide +kernel
theorem dX4_passing_7 : decode cX4_passing 7 = .ok (.aload_n 0, 1) := by decide +kernel
theorem dX4_passing_8 : decode cX4_passing 8 = .ok (.getfield 10, 3) := by decide +kernel
theorem dX4_passing_11 : decode cX4_passing 11 = .ok (.iload_n 1, 1) := by decide +kernel
theorem dX4_passing_12 : decode cX4_passing 12 = .ok (.invokevirtual 139, 3) := by decide +kernel
theorem dX4_passing_15 : decode cX4_passing 15 = .ok (.ireturn, 1) := by decide +kernel
theorem dX4_passing_16 : decode cX4_passing 16 = .ok (.iload_n 1, 1) := by decide +kernel
theorem dX4_passing_17 : decode cX4_passing 17 = .ok (.iconst 4, 1) := by decide +kernel
theorem dX4_passing_18 : decode cX4_passing 18 = .ok (.if_icmp .ne 13, 3) := by decide +kernel
theorem dX4_passing_21 : decode cX4_passing 21 = .ok (.aload_n 0, 1) := by decide +kernel
theorem dX4_passing_22 : decode cX4_passing 22 = .ok (.getfield 29, 3) := by decide +kernel
theorem dX4_passing_25 : decode cX4_passing 25 = .ok (.invokevirtual 173, 3) := by decide +kernel
theorem dX4_passing_28 : decode cX4_passing 28 = .ok (.goto 14, 3) := by decide +kernel
theorem dX4_passing_31 : decode cX4_passing 31 = .ok (.aload_n 0, 1) := by decide +kernel
theorem dX4_passing_32 : decode cX4_passing 32 = .ok (.getfield 36, 3) := by decide +kernel
theorem dX4_passing_35 : decode cX4_passing 35 = .ok (.aload_n 0, 1) := by decide +kernel
theorem dX4_passing_36 : decode cX4_passing 36 = .ok (.getfield 40, 3) := by decide +kernel
theorem dX4_passing_39 : decode cX4_passing 39 = .ok (.invokevirtual 175, 3) := by decide +kernel
theorem dX4_passing_42 : decode cX4_passing 42 = .ok (.ireturn, 1) := by decide +kernel
set_option maxRecDepth 20000 in
theorem ggX4_looks_X4_isRow : GoodIn wsX4_looks wsX4_isRow := goodIn_r _ [6, 7, 8, 5, 9] (by decide +kernel) (by decide +kernel)
set_option maxRecDepth 20000 in
theorem gX4_looks_X4_isRow : GoodIn wsX4_looks (va_wsS RX4 97 yX4_isRow wsX4_isRow) := goodIn_app (goodIn_of _ (by decide +kernel)) ggX4_looks_X4_isRow
set_option maxRecDepth 20000 in
theorem ggX4_looks_X2_looks : GoodIn wsX4_looks wsX2_looks := goodIn_r _ [14, 15, 33, 34] (by decide +kernel) (by decide +kernel)
set_option maxRecDepth 20000 in
theorem gX4_looks_X2_looks : GoodIn wsX4_looks (wsV RX4 140 RX2 yX2_looks wsX2_looks) := goodIn_app (goodIn_of _ (by decide +kernel)) ggX4_looks_X2_looks
set_option maxRecDepth 20000 in
theorem ggX4_looks_X1_sets : GoodIn wsX4_looks wsX1_sets := goodIn_r _ [19, 20, 21, 22, 23, 24, 25, 26] (by decide +kernel) (by decide +kernel)
set_option maxRecDepth 20000 in
theorem gX4_looks_X1_sets : GoodIn wsX4_looks (va_wsS RX4 176 yX1_sets wsX1_sets) := goodIn_app (goodIn_of _ (by decide +kernel)) ggX4_looks_X1_sets
theorem dX4_looks_0 : decode cX4_looks 0 = .ok (.iload_n 1, 1) := by decide +kernel
theorem dX4_looks_1 : decode cX4_looks 1 = .ok (.invokestatic 97, 3) := by decide +kernel
theorem dX4_looks_4 : decode cX4_looks 4 = .ok (.ifCond .eq 12, 3) := by decide +kernel
theorem dX4_looks_7 : decode cX4_looks 7 = .ok (.aload_n 0, 1) := by decide +kernel
theorem dX4_looks_8 : decode cX4_looks 8 = .ok (.getfield 10, 3) := by decide +kernel
theorem dX4_looks_11 : decode cX4_looks 11 = .ok (.iload_n 1, 1) := by decide +kernel
theorem dX4_looks_12 : decode cX4_looks 12 = .ok (.invokevirtual 140, 3) := by decide +kernel
theorem dX4_looks_15 : decode cX4_looks 15 = .ok (.ireturn, 1) := by decide +kernel
theorem dX4_looks_16 : decode cX4_looks 16 = .ok (.iload_n 1, 1) := by decide +kernel
theorem dX4_looks_17 : decode cX4_looks 17 = .ok (.iconst 4, 1) := by decide +kernel
theorem dX4_looks_18 : decode cX4_looks 18 = .ok (.if_icmp .ne 8, 3) := by decide +kernel
theorem dX4_looks_21 : decode cX4_looks 21 = .ok (.bipush 64, 2) := by decide +kernel
theorem dX4_looks_23 : decode cX4_looks 23 = .ok (.goto 10, 3) := by decide +kernel
theorem dX4_looks_26 : decode cX4_looks 26 = .ok (.aload_n 0, 1) := by decide +kernel
theorem dX4_looks_27 : decode cX4_looks 27 = .ok (.getfield 40, 3) := by decide +kernel
theorem dX4_looks_30 : decode cX4_looks 30 = .ok (.invokestatic 176, 3) := by decide +kernel
theorem dX4_looks_33 : decode cX4_looks 33 = .ok (.ireturn, 1) := by decide +kernel
theorem dX4_lowestTerm_0 : decode cX4_lowestTerm 0 = .ok (.iload_n 2, 1) := by decide +kernel
theorem dX4_lowestTerm_1 : decode cX4_lowestTerm 1 = .ok (.ifCond .ne 7, 3) := by decide +kernel
theorem dX4_lowestTerm_4 : decode cX4_lowestTerm 4 = .ok (.iload_n 0, 1) := by decide +kernel
theorem dX4_lowestTerm_5 : decode cX4_lowestTerm 5 = .ok (.goto 4, 3) := by decide +kernel
theorem dX4_lowestTerm_8 : decode cX4_lowestTerm 8 = .ok (.iload_n 1, 1) := by decide +kernel
theorem dX4_lowestTerm_9 : decode cX4_lowestTerm 9 = .ok (.istore_n 3, 1) := by decide +kernel
theorem dX4_lowestTerm_10 : decode cX4_lowestTerm 10 = .ok (.iload_n 1, 1) := by decide +kernel
theorem dX4_lowestTerm_11 : decode cX4_lowestTerm 11 = .ok (.istore 4, 2) := by decide +kernel
theorem dX4_lowestTerm_13 : decode cX4_lowestTerm 13 = .ok (.iload 4, 2) := by decide +kernel
theorem dX4_lowestTerm_15 : decode cX4_lowestTerm 15 = .ok (.iconst 1, 1) := by decide +kernel
theorem dX4_lowestTerm_16 : decode cX4_lowestTerm 16 = .ok (.if_icmp .le 28, 3) := by decide +kernel
theorem dX4_lowestTerm_19 : decode cX4_lowestTerm 19 = .ok (.iload_n 0, 1) := by decide +kernel
theorem dX4_lowestTerm_20 : decode cX4_lowestTerm 20 = .ok (.iload 4, 2) := by decide +kernel
theorem dX4_lowestTerm_22 : decode cX4_lowestTerm 22 = .ok (.irem, 1) := by decide +kernel
theorem dX4_lowestTerm_23 : decode cX4_lowestTerm 23 = .ok (.ifCond .ne 15, 3) := by decide +kernel
theorem dX4_lowestTerm_26 : decode cX4_lowestTerm 26 = .ok (.iload_n 1, 1) := by decide +kernel
theorem dX4_lowestTerm_27 : decode cX4_lowestTerm 27 = .ok (.iload 4, 2) := by decide +kernel
theorem dX4_lowestTerm_29 : decode cX4_lowestTerm 29 = .ok (.irem, 1) := by decide +kernel
theorem dX4_lowestTerm_30 : decode cX4_lowestTerm 30 = .ok (.ifCond .ne 8, 3) := by decide +kernel
theorem dX4_lowestTerm_33 : decode cX4_lowestTerm 33 = .ok (.iload_n 3, 1) := by decide +kernel
theorem dX4_lowestTerm_34 : decode cX4_lowestTerm 34 = .ok (.iload 4, 2) := by decide +kernel
theorem dX4_lowestTerm_36 : decode cX4_lowestTerm 36 = .ok (.idiv, 1) := by decide +kernel
theorem dX4_lowestTerm_37 : decode cX4_lowestTerm 37 = .ok (.ireturn, 1) := by decide +kernel
theorem dX4_lowestTerm_38 : decode cX4_lowestTerm 38 = .ok (.iinc 4 (-1), 3) := by decide +kernel
theorem dX4_lowestTerm_41 : decode cX4_lowestTerm 41 = .ok (.goto (-28), 3) := by decide +kernel
theorem dX4_lowestTerm_44 : decode cX4_lowestTerm 44 = .ok (.iload_n 3, 1) := by decide +kernel
theorem dX4_lowestTerm_45 : decode cX4_lowestTerm 45 = .ok (.ireturn, 1) := by decide +kernel
set_option maxRecDepth 20000 in
theorem ggX4_worstCode_X2_spell : GoodIn wsX4_worstCode wsX2_spell := goodIn_r _ [8, 9, 10, 93, 94] (by decide +kernel) (by decide +kernel)
set_option maxRecDepth 20000 in
theorem gX4_worstCode_X2_spell : GoodIn wsX4_worstCode (wsV RX4 136 RX2 yX2_spell wsX2_spell) := goodIn_app (goodIn_of _ (by decide +kernel)) ggX4_worstCode_X2_spell
set_option maxRecDepth 20000 in
theorem ggX4_worstCode_X2_passing : GoodIn wsX4_worstCode wsX2_passing := goodIn_r _ [14, 15, 16, 17, 7, 18, 9, 10, 19, 20, 21, 22, 23, 24, 25, 26, 27, 28, 29, 30, 93, 94] (by decide +kernel) (by decide +kernel)
set_option maxRecDepth 20000 in
theorem gX4_worstCode_X2_passing : GoodIn wsX4_worstCode (wsV RX4 139 RX2 yX2_passing wsX2_passing) := goodIn_app (goodIn_of _ (by decide +kernel)) ggX4_worstCode_X2_passing
set_option maxRecDepth 20000 in
theorem ggX4_worstCode_X0_seek : GoodIn wsX4_worstCode wsX0_seek := goodIn_r _ [35, 36, 37, 38, 39, 7, 40, 9, 10, 41, 42, 43, 34, 44, 45, 46, 47, 48, 49, 50, 51, 52, 53, 54, 55, 56, 57, 58, 59, 60, 61, 62, 63, 64, 65, 66, 24, 25, 26, 67, 68, 69, 70, 71, 72, 73, 74, 75, 76, 77, 78, 79, 80, 81, 82, 83, 84, 85, 86, 95, 96, 97, 93, 94] (by decide +kernel) (by decide +kernel)
set_option maxRecDepth 20000 in
theorem gX4_worstCode_X0_seek : GoodIn wsX4_worstCode (wsV RX4 100 RX0 yX0_seek wsX0_seek) := goodIn_app (goodIn_of _ (by decide +kernel)) ggX4_worstCode_X0_seek
theorem dX4_worstCode_0 : decode cX4_worstCode 0 = .ok (.iconst (-1), 1) := by decide +kernel
theorem dX4_worstCode_1 : decode cX4_worstCode 1 = .ok (.istore_n 3, 1) := by decide +kernel
theorem dX4_worstCode_2 : decode cX4_worstCode 2 = .ok (.iconst (-1), 1) := by decide +kernel
theorem dX4_worstCode_3 : decode cX4_worstCode 3 = .ok (.istore 4, 2) := by decide +kernel
theorem dX4_worstCode_5 : decode cX4_worstCode 5 = .ok (.iconst 0, 1) := by decide +kernel
theorem dX4_worstCode_6 : decode cX4_worstCode 6 = .ok (.istore 5, 2) := by decide +kernel
theorem dX4_worstCode_8 : decode cX4_worstCode 8 = .ok (.iload 5, 2) := by decide +kernel
theorem dX4_worstCode_10 : decode cX4_worstCode 10 = .ok (.iconst 1, 1) := by decide +kernel
theorem dX4_worstCode_11 : decode cX4_worstCode 11 = .ok (.aload_n 0, 1) := by decide +kernel
theorem dX4_worstCode_12 : decode cX4_worstCode 12 = .ok (.getfield 10, 3) := by decide +kernel
theorem dX4_worstCode_15 : decode cX4_worstCode 15 = .ok (.getfield 48, 3) := by decide +kernel
theorem dX4_worstCode_18 : decode cX4_worstCode 18 = .ok (.ishl, 1) := by decide +kernel
theorem dX4_worstCode_19 : decode cX4_worstCode 19 = .ok (.if_icmp .ge 65, 3) := by decide +kernel
theorem dX4_worstCode_22 : decode cX4_worstCode 22 = .ok (.aload_n 0, 1) := by decide +kernel
theorem dX4_worstCode_23 : decode cX4_worstCode 23 = .ok (.getfield 16, 3) := by decide +kernel
theorem dX4_worstCode_26 : decode cX4_worstCode 26 = .ok (.iload 5, 2) := by decide +kernel
theorem dX4_worstCode_28 : decode cX4_worstCode 28 = .ok (.aload_n 0, 1) := by decide +kernel
theorem dX4_worstCode_29 : decode cX4_worstCode 29 = .ok (.getfield 10, 3) := by decide +kernel
theorem dX4_worstCode_32 : decode cX4_worstCode 32 = .ok (.getfield 48, 3) := by decide +kernel
theorem dX4_worstCode_35 : decode cX4_worstCode 35 = .ok (.invokevirtual 136, 3) := by decide +kernel
theorem dX4_worstCode_38 : decode cX4_worstCode 38 = .ok (.aload_n 0, 1) := by decide +kernel
theorem dX4_worstCode_39 : decode cX4_worstCode 39 = .ok (.getfield 16, 3) := by decide +kernel
theorem dX4_worstCode_42 : decode cX4_worstCode 42 = .ok (.iload_n 1, 1) := by decide +kernel
theorem dX4_worstCode_43 : decode cX4_worstCode 43 = .ok (.invokevirtual 139, 3) := by decide +kernel
theorem dX4_worstCode_46 : decode cX4_worstCode 46 = .ok (.istore 6, 2) := by decide +kernel
theorem dX4_worstCode_48 : decode cX4_worstCode 48 = .ok (.iload 6, 2) := by decide +kernel
theorem dX4_worstCode_50 : decode cX4_worstCode 50 = .ok (.iload 4, 2) := by decide +kernel
theorem dX4_worstCode_52 : decode cX4_worstCode 52 = .ok (.if_icmp .le 26, 3) := by decide +kernel
theorem dX4_worstCode_55 : decode cX4_worstCode 55 = .ok (.aload_n 0, 1) := by decide +kernel
theorem dX4_worstCode_56 : decode cX4_worstCode 56 = .ok (.getfield 22, 3) := by decide +kernel
theorem dX4_worstCode_59 : decode cX4_worstCode 59 = .ok (.aload_n 0, 1) := by decide +kernel
theorem dX4_worstCode_60 : decode cX4_worstCode 60 = .ok (.getfield 16, 3) := by decide +kernel
theorem dX4_worstCode_63 : decode cX4_worstCode 63 = .ok (.iload_n 1, 1) := by decide +kernel
theorem dX4_worstCode_64 : decode cX4_worstCode 64 = .ok (.invokevirtual 100, 3) := by decide +kernel
theorem dX4_worstCode_67 : decode cX4_worstCode 67 = .ok (.iload_n 2, 1) := by decide +kernel
theorem dX4_worstCode_68 : decode cX4_worstCode 68 = .ok (.if_icmp .lt 10, 3) := by decide +kernel
theorem dX4_worstCode_71 : decode cX4_worstCode 71 = .ok (.iload 6, 2) := by decide +kernel
theorem dX4_worstCode_73 : decode cX4_worstCode 73 = .ok (.istore 4, 2) := by decide +kernel
theorem dX4_worstCode_75 : decode cX4_worstCode 75 = .ok (.iload 5, 2) := by decide +kernel
theorem dX4_worstCode_77 : decode cX4_worstCode 77 = .ok (.istore_n 3, 1) := by decide +kernel
theorem dX4_worstCode_78 : decode cX4_worstCode 78 = .ok (.iinc 5 1, 3) := by decide +kernel
theorem dX4_worstCode_81 : decode cX4_worstCode 81 = .ok (.goto (-73), 3) := by decide +kernel
theorem dX4_worstCode_84 : decode cX4_worstCode 84 = .ok (.iload_n 3, 1) := by decide +kernel
theorem dX4_worstCode_85 : decode cX4_worstCode 85 = .ok (.ireturn, 1) := by decide +kernel
set_option maxRecDepth 20000 in
theorem ggX4_isLook_X4_isPlace : GoodIn wsX4_isLook wsX4_isPlace := goodIn_r _ [6, 7, 8, 9, 5, 10, 21, 22, 23, 24, 25, 26, 27, 28] (by decide +kernel) (by decide +kernel)
set_option maxRecDepth 20000 in
theorem gX4_isLook_X4_isPlace : GoodIn wsX4_isLook (wsV RX4 55 RX4 yX4_isPlace wsX4_isPlace) := goodIn_app (goodIn_of _ (by decide +kernel)) ggX4_isLook_X4_isPlace
set_option maxRecDepth 20000 in
theorem ggX4_isLook_X4_isEntry : GoodIn wsX4_isLook wsX4_isEntry := goodIn_r _ [13, 8, 9, 5, 10] (by decide +kernel) (by decide +kernel)
set_option maxRecDepth 20000 in
theorem gX4_isLook_X4_isEntry : GoodIn wsX4_isLook (va_wsS RX4 63 yX4_isEntry wsX4_isEntry) := goodIn_app (goodIn_of _ (by decide +kernel)) ggX4_isLook_X4_isEntry
set_option maxRecDepth 20000 in
theorem ggX4_isLook_X4_within : GoodIn wsX4_isLook wsX4_within := goodIn_r _ [10] (by decide +kernel) (by decide +kernel)
set_option maxRecDepth 20000 in
theorem gX4_isLook_X4_within : GoodIn wsX4_isLook (va_wsS RX4 44 yX4_within wsX4_within) := goodIn_app (goodIn_of _ (by decide +kernel)) ggX4_isLook_X4_within
set_option maxRecDepth 20000 in
theorem ggX4_isLook_J6_bitCount_0f7a4 : GoodIn wsX4_isLook wsJ6_bitCount_0f7a4 := goodIn_r _ [17, 18, 19, 20] (by decide +kernel) (by decide +kernel)
set_option maxRecDepth 20000 in
theorem gX4_isLook_J6_bitCount_0f7a4 : GoodIn wsX4_isLook (va_wsS RX4 159 yJ6_bitCount_0f7a4 wsJ6_bitCount_0f7a4) := goodIn_app (goodIn_of _ (by decide +kernel)) ggX4_isLook_J6_bitCount_0f7a4
theorem dX4_isLook_0 : decode cX4_isLook 0 = .ok (.iload_n 1, 1) := by decide +kernel
theorem dX4_isLook_1 : decode cX4_isLook 1 = .ok (.lookupswitch 113 #[(0, 35), (4, 62), (5, 82)], 35) := by decide +kernel
theorem dX4_isLook_36 : decode cX4_isLook 36 = .ok (.aload_n 0, 1) := by decide +kernel
theorem dX4_isLook_37 : decode cX4_isLook 37 = .ok (.iload_n 2, 1) := by decide +kernel
theorem dX4_isLook_38 : decode cX4_isLook 38 = .ok (.invokevirtual 55, 3) := by decide +kernel
theorem dX4_isLook_41 : decode cX4_isLook 41 = .ok (.ifCond .eq 20, 3) := by decide +kernel
theorem dX4_isLook_44 : decode cX4_isLook 44 = .ok (.aload_n 0, 1) := by decide +kernel
theorem dX4_isLook_45 : decode cX4_isLook 45 = .ok (.iload_n 3, 1) := by decide +kernel
theorem dX4_isLook_46 : decode cX4_isLook 46 = .ok (.invokevirtual 55, 3) := by decide +kernel
theorem dX4_isLook_49 : decode cX4_isLook 49 = .ok (.ifCond .eq 12, 3) := by decide +kernel
theorem dX4_isLook_52 : decode cX4_isLook 52 = .ok (.iload_n 2, 1) := by decide +kernel
theorem dX4_isLook_53 : decode cX4_isLook 53 = .ok (.iload_n 3, 1) := by decide +kernel
theorem dX4_isLook_54 : decode cX4_isLook 54 = .ok (.if_icmp .ge 7, 3) := by decide +kernel
theorem dX4_isLook_57 : decode cX4_isLook 57 = .ok (.iconst 1, 1) := by decide +kernel
theorem dX4_isLook_58 : decode cX4_isLook 58 = .ok (.goto 4, 3) := by decide +kernel
theorem dX4_isLook_61 : decode cX4_isLook 61 = .ok (.iconst 0, 1) := by decide +kernel
theorem dX4_isLook_62 : decode cX4_isLook 62 = .ok (.ireturn, 1) := by decide +kernel
theorem dX4_isLook_63 : decode cX4_isLook 63 = .ok (.iload_n 2, 1) := by decide +kernel
theorem dX4_isLook_64 : decode cX4_isLook 64 = .ok (.invokestatic 63, 3) := by decide +kernel
theorem dX4_isLook_67 : decode cX4_isLook 67 = .ok (.ifCond .eq 14, 3) := by decide +kernel
theorem dX4_isLook_70 : decode cX4_isLook 70 = .ok (.iload_n 3, 1) := by decide +kernel
theorem dX4_isLook_71 : decode cX4_isLook 71 = .ok (.invokestatic 63, 3) := by decide +kernel
theorem dX4_isLook_74 : decode cX4_isLook 74 = .ok (.ifCond .eq 7, 3) := by decide +kernel
theorem dX4_isLook_77 : decode cX4_isLook 77 = .ok (.iconst 1, 1) := by decide +kernel
theorem dX4_isLook_78 : decode cX4_isLook 78 = .ok (.goto 4, 3) := by decide +kernel
theorem dX4_isLook_81 : decode cX4_isLook 81 = .ok (.iconst 0, 1) := by decide +kernel
theorem dX4_isLook_82 : decode cX4_isLook 82 = .ok (.ireturn, 1) := by decide +kernel
theorem dX4_isLook_83 : decode cX4_isLook 83 = .ok (.iload_n 2, 1) := by decide +kernel
theorem dX4_isLook_84 : decode cX4_isLook 84 = .ok (.iconst 0, 1) := by decide +kernel
theorem dX4_isLook_85 : decode cX4_isLook 85 = .ok (.bipush 63, 2) := by decide +kernel
theorem dX4_isLook_87 : decode cX4_isLook 87 = .ok (.invokestatic 44, 3) := by decide +kernel
theorem dX4_isLook_90 : decode cX4_isLook 90 = .ok (.ifCond .eq 22, 3) := by decide +kernel
theorem dX4_isLook_93 : decode cX4_isLook 93 = .ok (.iload_n 2, 1) := by decide +kernel
theorem dX4_isLook_94 : decode cX4_isLook 94 = .ok (.invokestatic 159, 3) := by decide +kernel
theorem dX4_isLook_97 : decode cX4_isLook 97 = .ok (.aload_n 0, 1) := by decide +kernel
theorem dX4_isLook_98 : decode cX4_isLook 98 = .ok (.getfield 40, 3) := by decide +kernel
theorem dX4_isLook_101 : decode cX4_isLook 101 = .ok (.if_icmp .ne 11, 3) := by decide +kernel
theorem dX4_isLook_104 : decode cX4_isLook 104 = .ok (.iload_n 3, 1) := by decide +kernel
theorem dX4_isLook_105 : decode cX4_isLook 105 = .ok (.ifCond .ne 7, 3) := by decide +kernel
theorem dX4_isLook_108 : decode cX4_isLook 108 = .ok (.iconst 1, 1) := by decide +kernel
theorem dX4_isLook_109 : decode cX4_isLook 109 = .ok (.goto 4, 3) := by decide +kernel
theorem dX4_isLook_112 : decode cX4_isLook 112 = .ok (.iconst 0, 1) := by decide +kernel
theorem dX4_isLook_113 : decode cX4_isLook 113 = .ok (.ireturn, 1) := by decide +kernel
theorem dX4_isLook_114 : decode cX4_isLook 114 = .ok (.iconst 0, 1) := by decide +kernel
theorem dX4_isLook_115 : decode cX4_isLook 115 = .ok (.ireturn, 1) := by decide +kernel
set_option maxRecDepth 20000 in
theorem ggX4_fails_X3_agrees : GoodIn wsX4_fails wsX3_agrees := goodIn_r _ [8, 9, 10, 11, 7, 12, 13, 46] (by decide +kernel) (by decide +kernel)
set_option maxRecDepth 20000 in
theorem gX4_fails_X3_agrees : GoodIn wsX4_fails (wsV RX4 179 RX3 yX3_agrees wsX3_agrees) := goodIn_app (goodIn_of _ (by decide +kernel)) ggX4_fails_X3_agrees
set_option maxRecDepth 20000 in
theorem ggX4_fails_X1_twoColoured : GoodIn wsX4_fails wsX1_twoColoured := goodIn_r _ [18, 19, 20, 21, 17, 22, 23, 24, 25, 26, 27, 28, 29, 30, 31, 32, 33, 34, 35, 36, 37, 47] (by decide +kernel) (by decide +kernel)
set_option maxRecDepth 20000 in
theorem gX4_fails_X1_twoColoured : GoodIn wsX4_fails (wsV RX4 183 RX1 yX1_twoColoured wsX1_twoColoured) := goodIn_app (goodIn_of _ (by decide +kernel)) ggX4_fails_X1_twoColoured
theorem dX4_fails_0 : decode cX4_fails 0 = .ok (.iload_n 1, 1) := by decide +kernel
theorem dX4_fails_1 : decode cX4_fails 1 = .ok (.ifCond .ne 30, 3) := by decide +kernel
theorem dX4_fails_4 : decode cX4_fails 4 = .ok (.aload_n 0, 1) := by decide +kernel
theorem dX4_fails_5 : decode cX4_fails 5 = .ok (.getfield 10, 3) := by decide +kernel
theorem dX4_fails_8 : decode cX4_fails 8 = .ok (.getfield 59, 3) := by decide +kernel
theorem dX4_fails_11 : decode cX4_fails 11 = .ok (.iload_n 2, 1) := by decide +kernel
theorem dX4_fails_12 : decode cX4_fails 12 = .ok (.iaload, 1) := by decide +kernel
theorem dX4_fails_13 : decode cX4_fails 13 = .ok (.aload_n 0, 1) := by decide +kernel
theorem dX4_fails_14 : decode cX4_fails 14 = .ok (.getfield 10, 3) := by decide +kernel
theorem dX4_fails_17 : decode cX4_fails 17 = .ok (.getfield 59, 3) := by decide +kernel
theorem dX4_fails_20 : decode cX4_fails 20 = .ok (.iload_n 3, 1) := by decide +kernel
theorem dX4_fails_21 : decode cX4_fails 21 = .ok (.iaload, 1) := by decide +kernel
theorem dX4_fails_22 : decode cX4_fails 22 = .ok (.if_icmp .le 7, 3) := by decide +kernel
theorem dX4_fails_25 : decode cX4_fails 25 = .ok (.iconst 1, 1) := by decide +kernel
theorem dX4_fails_26 : decode cX4_fails 26 = .ok (.goto 4, 3) := by decide +kernel
theorem dX4_fails_29 : decode cX4_fails 29 = .ok (.iconst 0, 1) := by decide +kernel
theorem dX4_fails_30 : decode cX4_fails 30 = .ok (.ireturn, 1) := by decide +kernel
theorem dX4_fails_31 : decode cX4_fails 31 = .ok (.iload_n 1, 1) := by decide +kernel
theorem dX4_fails_32 : decode cX4_fails 32 = .ok (.iconst 4, 1) := by decide +kernel
theorem dX4_fails_33 : decode cX4_fails 33 = .ok (.if_icmp .ne 21, 3) := by decide +kernel
theorem dX4_fails_36 : decode cX4_fails 36 = .ok (.aload_n 0, 1) := by decide +kernel
theorem dX4_fails_37 : decode cX4_fails 37 = .ok (.getfield 29, 3) := by decide +kernel
theorem dX4_fails_40 : decode cX4_fails 40 = .ok (.iload_n 2, 1) := by decide +kernel
theorem dX4_fails_41 : decode cX4_fails 41 = .ok (.iload_n 3, 1) := by decide +kernel
theorem dX4_fails_42 : decode cX4_fails 42 = .ok (.invokevirtual 179, 3) := by decide +kernel
theorem dX4_fails_45 : decode cX4_fails 45 = .ok (.ifCond .ne 7, 3) := by decide +kernel
theorem dX4_fails_48 : decode cX4_fails 48 = .ok (.iconst 1, 1) := by decide +kernel
theorem dX4_fails_49 : decode cX4_fails 49 = .ok (.goto 4, 3) := by decide +kernel
theorem dX4_fails_52 : decode cX4_fails 52 = .ok (.iconst 0, 1) := by decide +kernel
theorem dX4_fails_53 : decode cX4_fails 53 = .ok (.ireturn, 1) := by decide +kernel
theorem dX4_fails_54 : decode cX4_fails 54 = .ok (.aload_n 0, 1) := by decide +kernel
theorem dX4_fails_55 : decode cX4_fails 55 = .ok (.getfield 36, 3) := by decide +kernel
theorem dX4_fails_58 : decode cX4_fails 58 = .ok (.iload_n 2, 1) := by decide +kernel
theorem dX4_fails_59 : decode cX4_fails 59 = .ok (.invokevirtual 183, 3) := by decide +kernel
theorem dX4_fails_62 : decode cX4_fails 62 = .ok (.ifCond .ne 7, 3) := by decide +kernel
theorem dX4_fails_65 : decode cX4_fails 65 = .ok (.iconst 1, 1) := by decide +kernel
theorem dX4_fails_66 : decode cX4_fails 66 = .ok (.goto 4, 3) := by decide +kernel
theorem dX4_fails_69 : decode cX4_fails 69 = .ok (.iconst 0, 1) := by decide +kernel
theorem dX4_fails_70 : decode cX4_fails 70 = .ok (.ireturn, 1) := by decide +kernel
set_option maxRecDepth 20000 in
theorem ggX4_firstFailingSet_X4_isLook : GoodIn wsX4_firstFailingSet wsX4_isLook := goodIn_r _ [5, 6, 7, 8, 9, 4, 10, 11, 12, 13, 14, 15, 16, 17, 18, 19, 20, 21, 22, 23, 24, 59, 60, 61, 62, 63, 64, 65, 66] (by decide +kernel) (by decide +kernel)
set_option maxRecDepth 20000 in
theorem gX4_firstFailingSet_X4_isLook : GoodIn wsX4_firstFailingSet (wsV RX4 144 RX4 yX4_isLook wsX4_isLook) := goodIn_app (goodIn_of _ (by decide +kernel)) ggX4_firstFailingSet_X4_isLook
set_option maxRecDepth 20000 in
theorem ggX4_firstFailingSet_X4_fails : GoodIn wsX4_firstFailingSet wsX4_fails := goodIn_r _ [28, 11, 29, 30, 31, 32, 33, 34, 35, 36, 37, 38, 39, 40, 41, 42, 43, 44, 45, 46, 47, 48, 49, 50, 51, 52, 53, 54, 55, 56, 57, 58, 19, 20, 21, 22, 23, 24, 59, 60, 61, 62, 63, 64, 65, 66, 67, 68] (by decide +kernel) (by decide +kernel)
set_option maxRecDepth 20000 in
theorem gX4_firstFailingSet_X4_fails : GoodIn wsX4_firstFailingSet (wsV RX4 147 RX4 yX4_fails wsX4_fails) := goodIn_app (goodIn_of _ (by decide +kernel)) ggX4_firstFailingSet_X4_fails
theorem dX4_firstFailingSet_0 : decode cX4_firstFailingSet 0 = .ok (.iconst 0, 1) := by decide +kernel
theorem dX4_firstFailingSet_1 : decode cX4_firstFailingSet 1 = .ok (.istore_n 1, 1) := by decide +kernel
theorem dX4_firstFailingSet_2 : decode cX4_firstFailingSet 2 = .ok (.iload_n 1, 1) := by decide +kernel
theorem dX4_firstFailingSet_3 : decode cX4_firstFailingSet 3 = .ok (.bipush 63, 2) := by decide +kernel
theorem dX4_firstFailingSet_5 : decode cX4_firstFailingSet 5 = .ok (.if_icmp .gt 31, 3) := by decide +kernel
theorem dX4_firstFailingSet_8 : decode cX4_firstFailingSet 8 = .ok (.aload_n 0, 1) := by decide +kernel
theorem dX4_firstFailingSet_9 : decode cX4_firstFailingSet 9 = .ok (.iconst 5, 1) := by decide +kernel
theorem dX4_firstFailingSet_10 : decode cX4_firstFailingSet 10 = .ok (.iload_n 1, 1) := by decide +kernel
theorem dX4_firstFailingSet_11 : decode cX4_firstFailingSet 11 = .ok (.iconst 0, 1) := by decide +kernel
theorem dX4_firstFailingSet_12 : decode cX4_firstFailingSet 12 = .ok (.invokevirtual 144, 3) := by decide +kernel
theorem dX4_firstFailingSet_15 : decode cX4_firstFailingSet 15 = .ok (.ifCond .eq 15, 3) := by decide +kernel
theorem dX4_firstFailingSet_18 : decode cX4_firstFailingSet 18 = .ok (.aload_n 0, 1) := by decide +kernel
theorem dX4_firstFailingSet_19 : decode cX4_firstFailingSet 19 = .ok (.iconst 5, 1) := by decide +kernel
theorem dX4_firstFailingSet_20 : decode cX4_firstFailingSet 20 = .ok (.iload_n 1, 1) := by decide +kernel
theorem dX4_firstFailingSet_21 : decode cX4_firstFailingSet 21 = .ok (.iconst 0, 1) := by decide +kernel
theorem dX4_firstFailingSet_22 : decode cX4_firstFailingSet 22 = .ok (.invokevirtual 147, 3) := by decide +kernel
theorem dX4_firstFailingSet_25 : decode cX4_firstFailingSet 25 = .ok (.ifCond .eq 5, 3) := by decide +kernel
theorem dX4_firstFailingSet_28 : decode cX4_firstFailingSet 28 = .ok (.iload_n 1, 1) := by decide +kernel
theorem dX4_firstFailingSet_29 : decode cX4_firstFailingSet 29 = .ok (.ireturn, 1) := by decide +kernel
theorem dX4_firstFailingSet_30 : decode cX4_firstFailingSet 30 = .ok (.iinc 1 1, 3) := by decide +kernel
theorem dX4_firstFailingSet_33 : decode cX4_firstFailingSet 33 = .ok (.goto (-31), 3) := by decide +kernel
theorem dX4_firstFailingSet_36 : decode cX4_firstFailingSet 36 = .ok (.iconst (-1), 1) := by decide +kernel
theorem dX4_firstFailingSet_37 : decode cX4_firstFailingSet 37 = .ok (.ireturn, 1) := by decide +kernel
set_option maxRecDepth 20000 in
theorem ggX4_firstFailingPair_X4_isLook : GoodIn wsX4_firstFailingPair wsX4_isLook := goodIn_r _ [5, 6, 7, 8, 9, 4, 10, 11, 12, 13, 14, 15, 16, 17, 18, 19, 20, 21, 22, 23, 24, 59, 60, 61, 62, 63, 64, 65, 66] (by decide +kernel) (by decide +kernel)
set_option maxRecDepth 20000 in
theorem gX4_firstFailingPair_X4_isLook : GoodIn wsX4_firstFailingPair (wsV RX4 144 RX4 yX4_isLook wsX4_isLook) := goodIn_app (goodIn_of _ (by decide +kernel)) ggX4_firstFailingPair_X4_isLook
set_option maxRecDepth 20000 in
theorem ggX4_firstFailingPair_X4_fails : GoodIn wsX4_firstFailingPair wsX4_fails := goodIn_r _ [28, 11, 29, 30, 31, 32, 33, 34, 35, 36, 37, 38, 39, 40, 41, 42, 43, 44, 45, 46, 47, 48, 49, 50, 51, 52, 53, 54, 55, 56, 57, 58, 19, 20, 21, 22, 23, 24, 59, 60, 61, 62, 63, 64, 65, 66, 67, 68] (by decide +kernel) (by decide +kernel)
set_option maxRecDepth 20000 in
theorem gX4_firstFailingPair_X4_fails : GoodIn wsX4_firstFailingPair (wsV RX4 147 RX4 yX4_fails wsX4_fails) := goodIn_app (goodIn_of _ (by decide +kernel)) ggX4_firstFailingPair_X4_fails
theorem dX4_firstFailingPair_0 : decode cX4_firstFailingPair 0 = .ok (.iconst 0, 1) := by decide +kernel
theorem dX4_firstFailingPair_1 : decode cX4_firstFailingPair 1 = .ok (.istore_n 2, 1) := by decide +kernel
theorem dX4_firstFailingPair_2 : decode cX4_firstFailingPair 2 = .ok (.iload_n 2, 1) := by decide +kernel
theorem dX4_firstFailingPair_3 : decode cX4_firstFailingPair 3 = .ok (.bipush 8, 2) := by decide +kernel
theorem dX4_firstFailingPair_5 : decode cX4_firstFailingPair 5 = .ok (.if_icmp .ge 50, 3) := by decide +kernel
theorem dX4_firstFailingPair_8 : decode cX4_firstFailingPair 8 = .ok (.iconst 0, 1) := by decide +kernel
theorem dX4_firstFailingPair_9 : decode cX4_firstFailingPair 9 = .ok (.istore_n 3, 1) := by decide +kernel
theorem dX4_firstFailingPair_10 : decode cX4_firstFailingPair 10 = .ok (.iload_n 3, 1) := by decide +kernel
theorem dX4_firstFailingPair_11 : decode cX4_firstFailingPair 11 = .ok (.bipush 8, 2) := by decide +kernel
theorem dX4_firstFailingPair_13 : decode cX4_firstFailingPair 13 = .ok (.if_icmp .ge 36, 3) := by decide +kernel
theorem dX4_firstFailingPair_16 : decode cX4_firstFailingPair 16 = .ok (.aload_n 0, 1) := by decide +kernel
theorem dX4_firstFailingPair_17 : decode cX4_firstFailingPair 17 = .ok (.iload_n 1, 1) := by decide +kernel
theorem dX4_firstFailingPair_18 : decode cX4_firstFailingPair 18 = .ok (.iload_n 2, 1) := by decide +kernel
theorem dX4_firstFailingPair_19 : decode cX4_firstFailingPair 19 = .ok (.iload_n 3, 1) := by decide +kernel
theorem dX4_firstFailingPair_20 : decode cX4_firstFailingPair 20 = .ok (.invokevirtual 144, 3) := by decide +kernel
theorem dX4_firstFailingPair_23 : decode cX4_firstFailingPair 23 = .ok (.ifCond .eq 20, 3) := by decide +kernel
theorem dX4_firstFailingPair_26 : decode cX4_firstFailingPair 26 = .ok (.aload_n 0, 1) := by decide +kernel
theorem dX4_firstFailingPair_27 : decode cX4_firstFailingPair 27 = .ok (.iload_n 1, 1) := by decide +kernel
theorem dX4_firstFailingPair_28 : decode cX4_firstFailingPair 28 = .ok (.iload_n 2, 1) := by decide +kernel
theorem dX4_firstFailingPair_29 : decode cX4_firstFailingPair 29 = .ok (.iload_n 3, 1) := by decide +kernel
theorem dX4_firstFailingPair_30 : decode cX4_firstFailingPair 30 = .ok (.invokevirtual 147, 3) := by decide +kernel
theorem dX4_firstFailingPair_33 : decode cX4_firstFailingPair 33 = .ok (.ifCond .eq 10, 3) := by decide +kernel
theorem dX4_firstFailingPair_36 : decode cX4_firstFailingPair 36 = .ok (.bipush 100, 2) := by decide +kernel
theorem dX4_firstFailingPair_38 : decode cX4_firstFailingPair 38 = .ok (.iload_n 2, 1) := by decide +kernel
theorem dX4_firstFailingPair_39 : decode cX4_firstFailingPair 39 = .ok (.imul, 1) := by decide +kernel
theorem dX4_firstFailingPair_40 : decode cX4_firstFailingPair 40 = .ok (.iload_n 3, 1) := by decide +kernel
theorem dX4_firstFailingPair_41 : decode cX4_firstFailingPair 41 = .ok (.iadd, 1) := by decide +kernel
theorem dX4_firstFailingPair_42 : decode cX4_firstFailingPair 42 = .ok (.ireturn, 1) := by decide +kernel
theorem dX4_firstFailingPair_43 : decode cX4_firstFailingPair 43 = .ok (.iinc 3 1, 3) := by decide +kernel
theorem dX4_firstFailingPair_46 : decode cX4_firstFailingPair 46 = .ok (.goto (-36), 3) := by decide +kernel
theorem dX4_firstFailingPair_49 : decode cX4_firstFailingPair 49 = .ok (.iinc 2 1, 3) := by decide +kernel
theorem dX4_firstFailingPair_52 : decode cX4_firstFailingPair 52 = .ok (.goto (-50), 3) := by decide +kernel
theorem dX4_firstFailingPair_55 : decode cX4_firstFailingPair 55 = .ok (.iconst (-1), 1) := by decide +kernel
theorem dX4_firstFailingPair_56 : decode cX4_firstFailingPair 56 = .ok (.ireturn, 1) := by decide +kernel
