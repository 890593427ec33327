theorem dX5_init_0 : decode cX5_init 0 = .ok (.aload_n 0, 1) := by decide +kernel
theorem dX5_init_1 : decode cX5_init 1 = .ok (.invokespecial 1, 3) := by decide +kernel
theorem dX5_init_4 : decode cX5_init 4 = .ok (.aload_n 0, 1) := by decide +kernel
theorem dX5_init_5 : decode cX5_init 5 = .ok (.bipush 8, 2) := by decide +kernel
theorem dX5_init_7 : decode cX5_init 7 = .ok (.putfield 7, 3) := by decide +kernel
theorem dX5_init_10 : decode cX5_init 10 = .ok (.aload_n 0, 1) := by decide +kernel
theorem dX5_init_11 : decode cX5_init 11 = .ok (.bipush 8, 2) := by decide +kernel
theorem dX5_init_13 : decode cX5_init 13 = .ok (.newarray .int, 2) := by decide +kernel
theorem dX5_init_15 : decode cX5_init 15 = .ok (.putfield 13, 3) := by decide +kernel
theorem dX5_init_18 : decode cX5_init 18 = .ok (.aload_n 0, 1) := by decide +kernel
theorem dX5_init_19 : decode cX5_init 19 = .ok (.bipush 8, 2) := by decide +kernel
theorem dX5_init_21 : decode cX5_init 21 = .ok (.newarray .int, 2) := by decide +kernel
theorem dX5_init_23 : decode cX5_init 23 = .ok (.putfield 17, 3) := by decide +kernel
theorem dX5_init_26 : decode cX5_init 26 = .ok (.aload_n 0, 1) := by decide +kernel
theorem dX5_init_27 : decode cX5_init 27 = .ok (.bipush 6, 2) := by decide +kernel
theorem dX5_init_29 : decode cX5_init 29 = .ok (.newarray .int, 2) := by decide +kernel
theorem dX5_init_31 : decode cX5_init 31 = .ok (.putfield 20, 3) := by decide +kernel
theorem dX5_init_34 : decode cX5_init 34 = .ok (.aload_n 0, 1) := by decide +kernel
theorem dX5_init_35 : decode cX5_init 35 = .ok (.iconst 3, 1) := by decide +kernel
theorem dX5_init_36 : decode cX5_init 36 = .ok (.putfield 23, 3) := by decide +kernel
theorem dX5_init_39 : decode cX5_init 39 = .ok (.aload_n 0, 1) := by decide +kernel
theorem dX5_init_40 : decode cX5_init 40 = .ok (.bipush 8, 2) := by decide +kernel
theorem dX5_init_42 : decode cX5_init 42 = .ok (.newarray .int, 2) := by decide +kernel
theorem dX5_init_44 : decode cX5_init 44 = .ok (.putfield 26, 3) := by decide +kernel
theorem dX5_init_47 : decode cX5_init 47 = .ok (.aload_n 0, 1) := by decide +kernel
theorem dX5_init_48 : decode cX5_init 48 = .ok (.bipush 8, 2) := by decide +kernel
theorem dX5_init_50 : decode cX5_init 50 = .ok (.newarray .int, 2) := by decide +kernel
theorem dX5_init_52 : decode cX5_init 52 = .ok (.putfield 29, 3) := by decide +kernel
theorem dX5_init_55 : decode cX5_init 55 = .ok (.return_, 1) := by decide +kernel
theorem dX5_in_0 : decode cX5_in 0 = .ok (.iload_n 0, 1) := by decide +kernel
theorem dX5_in_1 : decode cX5_in 1 = .ok (.iload_n 1, 1) := by decide +kernel
theorem dX5_in_2 : decode cX5_in 2 = .ok (.if_icmp .lt 12, 3) := by decide +kernel
theorem dX5_in_5 : decode cX5_in 5 = .ok (.iload_n 0, 1) := by decide +kernel
theorem dX5_in_6 : decode cX5_in 6 = .ok (.iload_n 2, 1) := by decide +kernel
theorem dX5_in_7 : decode cX5_in 7 = .ok (.if_icmp .gt 7, 3) := by decide +kernel
theorem dX5_in_10 : decode cX5_in 10 = .ok (.iconst 1, 1) := by decide +kernel
theorem dX5_in_11 : decode cX5_in 11 = .ok (.goto 4, 3) := by decide +kernel
theorem dX5_in_14 : decode cX5_in 14 = .ok (.iconst 0, 1) := by decide +kernel
theorem dX5_in_15 : decode cX5_in 15 = .ok (.ireturn, 1) := by decide +kernel
theorem dX5_ones_0 : decode cX5_ones 0 = .ok (.iconst 0, 1) := by decide +kernel
theorem dX5_ones_1 : decode cX5_ones 1 = .ok (.istore_n 1, 1) := by decide +kernel
theorem dX5_ones_2 : decode cX5_ones 2 = .ok (.iconst 0, 1) := by decide +kernel
theorem dX5_ones_3 : decode cX5_ones 3 = .ok (.istore_n 2, 1) := by decide +kernel
theorem dX5_ones_4 : decode cX5_ones 4 = .ok (.iload_n 2, 1) := by decide +kernel
theorem dX5_ones_5 : decode cX5_ones 5 = .ok (.bipush 8, 2) := by decide +kernel
theorem dX5_ones_7 : decode cX5_ones 7 = .ok (.if_icmp .ge 17, 3) := by decide +kernel
theorem dX5_ones_10 : decode cX5_ones 10 = .ok (.iload_n 1, 1) := by decide +kernel
theorem dX5_ones_11 : decode cX5_ones 11 = .ok (.iload_n 0, 1) := by decide +kernel
theorem dX5_ones_12 : decode cX5_ones 12 = .ok (.iload_n 2, 1) := by decide +kernel
theorem dX5_ones_13 : decode cX5_ones 13 = .ok (.ishr, 1) := by decide +kernel
theorem dX5_ones_14 : decode cX5_ones 14 = .ok (.iconst 1, 1) := by decide +kernel
theorem dX5_ones_15 : decode cX5_ones 15 = .ok (.iand, 1) := by decide +kernel
theorem dX5_ones_16 : decode cX5_ones 16 = .ok (.iadd, 1) := by decide +kernel
theorem dX5_ones_17 : decode cX5_ones 17 = .ok (.istore_n 1, 1) := by decide +kernel
theorem dX5_ones_18 : decode cX5_ones 18 = .ok (.iinc 2 1, 3) := by decide +kernel
theorem dX5_ones_21 : decode cX5_ones 21 = .ok (.goto (-17), 3) := by decide +kernel
theorem dX5_ones_24 : decode cX5_ones 24 = .ok (.iload_n 1, 1) := by decide +kernel
theorem dX5_ones_25 : decode cX5_ones 25 = .ok (.ireturn, 1) := by decide +kernel
set_option maxRecDepth 20000 in
theorem ggX5_isSubject_X5_in : GoodIn wsX5_isSubject wsX5_in := goodIn_r _ [4] (by decide +kernel) (by decide +kernel)
set_option maxRecDepth 20000 in
theorem gX5_isSubject_X5_in : GoodIn wsX5_isSubject (va_wsS RX5 32 yX5_in wsX5_in) := goodIn_app (goodIn_of _ (by decide +kernel)) ggX5_isSubject_X5_in
theorem dX5_isSubject_0 : decode cX5_isSubject 0 = .ok (.iload_n 0, 1) := by decide +kernel
theorem dX5_isSubject_1 : decode cX5_isSubject 1 = .ok (.iconst 0, 1) := by decide +kernel
theorem dX5_isSubject_2 : decode cX5_isSubject 2 = .ok (.iconst 5, 1) := by decide +kernel
theorem dX5_isSubject_3 : decode cX5_isSubject 3 = .ok (.invokestatic 32, 3) := by decide +kernel
theorem dX5_isSubject_6 : decode cX5_isSubject 6 = .ok (.ireturn, 1) := by decide +kernel
set_option maxRecDepth 20000 in
theorem ggX5_isPlace_X5_in : GoodIn wsX5_isPlace wsX5_in := goodIn_r _ [5] (by decide +kernel) (by decide +kernel)
set_option maxRecDepth 20000 in
theorem gX5_isPlace_X5_in : GoodIn wsX5_isPlace (va_wsS RX5 32 yX5_in wsX5_in) := goodIn_app (goodIn_of _ (by decide +kernel)) ggX5_isPlace_X5_in
theorem dX5_isPlace_0 : decode cX5_isPlace 0 = .ok (.iload_n 1, 1) := by decide +kernel
theorem dX5_isPlace_1 : decode cX5_isPlace 1 = .ok (.iconst 0, 1) := by decide +kernel
theorem dX5_isPlace_2 : decode cX5_isPlace 2 = .ok (.aload_n 0, 1) := by decide +kernel
theorem dX5_isPlace_3 : decode cX5_isPlace 3 = .ok (.getfield 7, 3) := by decide +kernel
theorem dX5_isPlace_6 : decode cX5_isPlace 6 = .ok (.iconst 1, 1) := by decide +kernel
theorem dX5_isPlace_7 : decode cX5_isPlace 7 = .ok (.isub, 1) := by decide +kernel
theorem dX5_isPlace_8 : decode cX5_isPlace 8 = .ok (.invokestatic 32, 3) := by decide +kernel
theorem dX5_isPlace_11 : decode cX5_isPlace 11 = .ok (.ireturn, 1) := by decide +kernel
set_option maxRecDepth 20000 in
theorem ggX5_isEight_X5_in : GoodIn wsX5_isEight wsX5_in := goodIn_r _ [4] (by decide +kernel) (by decide +kernel)
set_option maxRecDepth 20000 in
theorem gX5_isEight_X5_in : GoodIn wsX5_isEight (va_wsS RX5 32 yX5_in wsX5_in) := goodIn_app (goodIn_of _ (by decide +kernel)) ggX5_isEight_X5_in
theorem dX5_isEight_0 : decode cX5_isEight 0 = .ok (.iload_n 0, 1) := by decide +kernel
theorem dX5_isEight_1 : decode cX5_isEight 1 = .ok (.iconst 0, 1) := by decide +kernel
theorem dX5_isEight_2 : decode cX5_isEight 2 = .ok (.bipush 7, 2) := by decide +kernel
theorem dX5_isEight_4 : decode cX5_isEight 4 = .ok (.invokestatic 32, 3) := by decide +kernel
theorem dX5_isEight_7 : decode cX5_isEight 7 = .ok (.ireturn, 1) := by decide +kernel
set_option maxRecDepth 20000 in
theorem ggX5_isBit_X5_in : GoodIn wsX5_isBit wsX5_in := goodIn_r _ [4] (by decide +kernel) (by decide +kernel)
set_option maxRecDepth 20000 in
theorem gX5_isBit_X5_in : GoodIn wsX5_isBit (va_wsS RX5 32 yX5_in wsX5_in) := goodIn_app (goodIn_of _ (by decide +kernel)) ggX5_isBit_X5_in
theorem dX5_isBit_0 : decode cX5_isBit 0 = .ok (.iload_n 0, 1) := by decide +kernel
theorem dX5_isBit_1 : decode cX5_isBit 1 = .ok (.iconst 0, 1) := by decide +kernel
theorem dX5_isBit_2 : decode cX5_isBit 2 = .ok (.iconst 1, 1) := by decide +kernel
theorem dX5_isBit_3 : decode cX5_isBit 3 = .ok (.invokestatic 32, 3) := by decide +kernel
theorem dX5_isBit_6 : decode cX5_isBit 6 = .ok (.ireturn, 1) := by decide +kernel
set_option maxRecDepth 20000 in
theorem ggX5_places_X5_in : GoodIn wsX5_places wsX5_in := goodIn_r _ [6] (by decide +kernel) (by decide +kernel)
set_option maxRecDepth 20000 in
theorem gX5_places_X5_in : GoodIn wsX5_places (va_wsS RX5 32 yX5_in wsX5_in) := goodIn_app (goodIn_of _ (by decide +kernel)) ggX5_places_X5_in
theorem dX5_places_0 : decode cX5_places 0 = .ok (.iload_n 1, 1) := by decide +kernel
theorem dX5_places_1 : decode cX5_places 1 = .ok (.iconst 2, 1) := by decide +kernel
theorem dX5_places_2 : decode cX5_places 2 = .ok (.bipush 8, 2) := by decide +kernel
theorem dX5_places_4 : decode cX5_places 4 = .ok (.invokestatic 32, 3) := by decide +kernel
theorem dX5_places_7 : decode cX5_places 7 = .ok (.ifCond .ne 6, 3) := by decide +kernel
theorem dX5_places_10 : decode cX5_places 10 = .ok (.bipush (-2), 2) := by decide +kernel
theorem dX5_places_12 : decode cX5_places 12 = .ok (.ireturn, 1) := by decide +kernel
theorem dX5_places_13 : decode cX5_places 13 = .ok (.aload_n 0, 1) := by decide +kernel
theorem dX5_places_14 : decode cX5_places 14 = .ok (.getfield 7, 3) := by decide +kernel
theorem dX5_places_17 : decode cX5_places 17 = .ok (.istore_n 2, 1) := by decide +kernel
theorem dX5_places_18 : decode cX5_places 18 = .ok (.aload_n 0, 1) := by decide +kernel
theorem dX5_places_19 : decode cX5_places 19 = .ok (.iload_n 1, 1) := by decide +kernel
theorem dX5_places_20 : decode cX5_places 20 = .ok (.putfield 7, 3) := by decide +kernel
theorem dX5_places_23 : decode cX5_places 23 = .ok (.iconst 0, 1) := by decide +kernel
theorem dX5_places_24 : decode cX5_places 24 = .ok (.istore_n 3, 1) := by decide +kernel
theorem dX5_places_25 : decode cX5_places 25 = .ok (.iload_n 3, 1) := by decide +kernel
theorem dX5_places_26 : decode cX5_places 26 = .ok (.bipush 8, 2) := by decide +kernel
theorem dX5_places_28 : decode cX5_places 28 = .ok (.if_icmp .ge 16, 3) := by decide +kernel
theorem dX5_places_31 : decode cX5_places 31 = .ok (.aload_n 0, 1) := by decide +kernel
theorem dX5_places_32 : decode cX5_places 32 = .ok (.getfield 13, 3) := by decide +kernel
theorem dX5_places_35 : decode cX5_places 35 = .ok (.iload_n 3, 1) := by decide +kernel
theorem dX5_places_36 : decode cX5_places 36 = .ok (.iconst 0, 1) := by decide +kernel
theorem dX5_places_37 : decode cX5_places 37 = .ok (.iastore, 1) := by decide +kernel
theorem dX5_places_38 : decode cX5_places 38 = .ok (.iinc 3 1, 3) := by decide +kernel
theorem dX5_places_41 : decode cX5_places 41 = .ok (.goto (-16), 3) := by decide +kernel
theorem dX5_places_44 : decode cX5_places 44 = .ok (.iload_n 2, 1) := by decide +kernel
theorem dX5_places_45 : decode cX5_places 45 = .ok (.ireturn, 1) := by decide +kernel
set_option maxRecDepth 20000 in
theorem ggX5_digit_X5_isPlace : GoodIn wsX5_digit wsX5_isPlace := goodIn_r _ [6, 7, 8, 9, 5, 10, 11, 12, 13, 14, 15, 16, 17, 18, 19, 20, 21] (by decide +kernel) (by decide +kernel)
set_option maxRecDepth 20000 in
theorem gX5_digit_X5_isPlace : GoodIn wsX5_digit (wsV RX5 36 RX5 yX5_isPlace wsX5_isPlace) := goodIn_app (goodIn_of _ (by decide +kernel)) ggX5_digit_X5_isPlace
set_option maxRecDepth 20000 in
theorem ggX5_digit_X5_in : GoodIn wsX5_digit wsX5_in := goodIn_r _ [10] (by decide +kernel) (by decide +kernel)
set_option maxRecDepth 20000 in
theorem gX5_digit_X5_in : GoodIn wsX5_digit (va_wsS RX5 32 yX5_in wsX5_in) := goodIn_app (goodIn_of _ (by decide +kernel)) ggX5_digit_X5_in
theorem dX5_digit_0 : decode cX5_digit 0 = .ok (.aload_n 0, 1) := by decide +kernel
theorem dX5_digit_1 : decode cX5_digit 1 = .ok (.iload_n 1, 1) := by decide +kernel
theorem dX5_digit_2 : decode cX5_digit 2 = .ok (.invokevirtual 36, 3) := by decide +kernel
theorem dX5_digit_5 : decode cX5_digit 5 = .ok (.ifCond .eq 12, 3) := by decide +kernel
theorem dX5_digit_8 : decode cX5_digit 8 = .ok (.iload_n 2, 1) := by decide +kernel
theorem dX5_digit_9 : decode cX5_digit 9 = .ok (.iconst 0, 1) := by decide +kernel
theorem dX5_digit_10 : decode cX5_digit 10 = .ok (.iconst 3, 1) := by decide +kernel
theorem dX5_digit_11 : decode cX5_digit 11 = .ok (.invokestatic 32, 3) := by decide +kernel
theorem dX5_digit_14 : decode cX5_digit 14 = .ok (.ifCond .ne 6, 3) := by decide +kernel
theorem dX5_digit_17 : decode cX5_digit 17 = .ok (.bipush (-2), 2) := by decide +kernel
theorem dX5_digit_19 : decode cX5_digit 19 = .ok (.ireturn, 1) := by decide +kernel
theorem dX5_digit_20 : decode cX5_digit 20 = .ok (.aload_n 0, 1) := by decide +kernel
theorem dX5_digit_21 : decode cX5_digit 21 = .ok (.getfield 13, 3) := by decide +kernel
theorem dX5_digit_24 : decode cX5_digit 24 = .ok (.iload_n 1, 1) := by decide +kernel
theorem dX5_digit_25 : decode cX5_digit 25 = .ok (.iaload, 1) := by decide +kernel
theorem dX5_digit_26 : decode cX5_digit 26 = .ok (.istore_n 3, 1) := by decide +kernel
theorem dX5_digit_27 : decode cX5_digit 27 = .ok (.aload_n 0, 1) := by decide +kernel
theorem dX5_digit_28 : decode cX5_digit 28 = .ok (.getfield 13, 3) := by decide +kernel
theorem dX5_digit_31 : decode cX5_digit 31 = .ok (.iload_n 1, 1) := by decide +kernel
theorem dX5_digit_32 : decode cX5_digit 32 = .ok (.iload_n 2, 1) := by decide +kernel
theorem dX5_digit_33 : decode cX5_digit 33 = .ok (.iastore, 1) := by decide +kernel
theorem dX5_digit_34 : decode cX5_digit 34 = .ok (.iload_n 3, 1) := by decide +kernel
theorem dX5_digit_35 : decode cX5_digit 35 = .ok (.ireturn, 1) := by decide +kernel
set_option maxRecDepth 20000 in
theorem ggX5_bit_X5_isEight : GoodIn wsX5_bit wsX5_isEight := goodIn_r _ [5, 6, 7, 4, 8] (by decide +kernel) (by decide +kernel)
set_option maxRecDepth 20000 in
theorem gX5_bit_X5_isEight : GoodIn wsX5_bit (va_wsS RX5 40 yX5_isEight wsX5_isEight) := goodIn_app (goodIn_of _ (by decide +kernel)) ggX5_bit_X5_isEight
set_option maxRecDepth 20000 in
theorem ggX5_bit_X5_isBit : GoodIn wsX5_bit wsX5_isBit := goodIn_r _ [11, 6, 7, 4, 8] (by decide +kernel) (by decide +kernel)
set_option maxRecDepth 20000 in
theorem gX5_bit_X5_isBit : GoodIn wsX5_bit (va_wsS RX5 43 yX5_isBit wsX5_isBit) := goodIn_app (goodIn_of _ (by decide +kernel)) ggX5_bit_X5_isBit
theorem dX5_bit_0 : decode cX5_bit 0 = .ok (.iload_n 1, 1) := by decide +kernel
theorem dX5_bit_1 : decode cX5_bit 1 = .ok (.invokestatic 40, 3) := by decide +kernel
theorem dX5_bit_4 : decode cX5_bit 4 = .ok (.ifCond .eq 10, 3) := by decide +kernel
theorem dX5_bit_7 : decode cX5_bit 7 = .ok (.iload_n 2, 1) := by decide +kernel
theorem dX5_bit_8 : decode cX5_bit 8 = .ok (.invokestatic 43, 3) := by decide +kernel
theorem dX5_bit_11 : decode cX5_bit 11 = .ok (.ifCond .ne 6, 3) := by decide +kernel
theorem dX5_bit_14 : decode cX5_bit 14 = .ok (.bipush (-2), 2) := by decide +kernel
theorem dX5_bit_16 : decode cX5_bit 16 = .ok (.ireturn, 1) := by decide +kernel
theorem dX5_bit_17 : decode cX5_bit 17 = .ok (.aload_n 0, 1) := by decide +kernel
theorem dX5_bit_18 : decode cX5_bit 18 = .ok (.getfield 17, 3) := by decide +kernel
theorem dX5_bit_21 : decode cX5_bit 21 = .ok (.iload_n 1, 1) := by decide +kernel
theorem dX5_bit_22 : decode cX5_bit 22 = .ok (.iaload, 1) := by decide +kernel
theorem dX5_bit_23 : decode cX5_bit 23 = .ok (.istore_n 3, 1) := by decide +kernel
theorem dX5_bit_24 : decode cX5_bit 24 = .ok (.aload_n 0, 1) := by decide +kernel
theorem dX5_bit_25 : decode cX5_bit 25 = .ok (.getfield 17, 3) := by decide +kernel
theorem dX5_bit_28 : decode cX5_bit 28 = .ok (.iload_n 1, 1) := by decide +kernel
theorem dX5_bit_29 : decode cX5_bit 29 = .ok (.iload_n 2, 1) := by decide +kernel
theorem dX5_bit_30 : decode cX5_bit 30 = .ok (.iastore, 1) := by decide +kernel
theorem dX5_bit_31 : decode cX5_bit 31 = .ok (.iload_n 3, 1) := by decide +kernel
theorem dX5_bit_32 : decode cX5_bit 32 = .ok (.ireturn, 1) := by decide +kernel
set_option maxRecDepth 20000 in
theorem ggX5_parity_X5_ones : GoodIn wsX5_parity wsX5_ones := goodIn_r _ [4] (by decide +kernel) (by decide +kernel)
set_option maxRecDepth 20000 in
theorem gX5_parity_X5_ones : GoodIn wsX5_parity (va_wsS RX5 46 yX5_ones wsX5_ones) := goodIn_app (goodIn_of _ (by decide +kernel)) ggX5_parity_X5_ones
theorem dX5_parity_0 : decode cX5_parity 0 = .ok (.iload_n 0, 1) := by decide +kernel
theorem dX5_parity_1 : decode cX5_parity 1 = .ok (.iload_n 1, 1) := by decide +kernel
theorem dX5_parity_2 : decode cX5_parity 2 = .ok (.iand, 1) := by decide +kernel
theorem dX5_parity_3 : decode cX5_parity 3 = .ok (.invokestatic 46, 3) := by decide +kernel
theorem dX5_parity_6 : decode cX5_parity 6 = .ok (.iconst 2, 1) := by decide +kernel
theorem dX5_parity_7 : decode cX5_parity 7 = .ok (.irem, 1) := by decide +kernel
theorem dX5_parity_8 : decode cX5_parity 8 = .ok (.ireturn, 1) := by decide +kernel
set_option maxRecDepth 20000 in
theorem ggX5_linear_X5_isEight : GoodIn wsX5_linear wsX5_isEight := goodIn_r _ [5, 6, 7, 4, 8] (by decide +kernel) (by decide +kernel)
set_option maxRecDepth 20000 in
theorem gX5_linear_X5_isEight : GoodIn wsX5_linear (va_wsS RX5 40 yX5_isEight wsX5_isEight) := goodIn_app (goodIn_of _ (by decide +kernel)) ggX5_linear_X5_isEight
set_option maxRecDepth 20000 in
theorem ggX5_linear_X5_parity : GoodIn wsX5_linear wsX5_parity := goodIn_r _ [11, 12, 13, 4, 14] (by decide +kernel) (by decide +kernel)
set_option maxRecDepth 20000 in
theorem gX5_linear_X5_parity : GoodIn wsX5_linear (va_wsS RX5 50 yX5_parity wsX5_parity) := goodIn_app (goodIn_of _ (by decide +kernel)) ggX5_linear_X5_parity
theorem dX5_linear_0 : decode cX5_linear 0 = .ok (.iload_n 1, 1) := by decide +kernel
theorem dX5_linear_1 : decode cX5_linear 1 = .ok (.invokestatic 40, 3) := by decide +kernel
theorem dX5_linear_4 : decode cX5_linear 4 = .ok (.ifCond .ne 6, 3) := by decide +kernel
theorem dX5_linear_7 : decode cX5_linear 7 = .ok (.bipush (-2), 2) := by decide +kernel
theorem dX5_linear_9 : decode cX5_linear 9 = .ok (.ireturn, 1) := by decide +kernel
theorem dX5_linear_10 : decode cX5_linear 10 = .ok (.iconst 0, 1) := by decide +kernel
theorem dX5_linear_11 : decode cX5_linear 11 = .ok (.istore_n 2, 1) := by decide +kernel
theorem dX5_linear_12 : decode cX5_linear 12 = .ok (.iload_n 2, 1) := by decide +kernel
theorem dX5_linear_13 : decode cX5_linear 13 = .ok (.bipush 8, 2) := by decide +kernel
theorem dX5_linear_15 : decode cX5_linear 15 = .ok (.if_icmp .ge 20, 3) := by decide +kernel
theorem dX5_linear_18 : decode cX5_linear 18 = .ok (.aload_n 0, 1) := by decide +kernel
theorem dX5_linear_19 : decode cX5_linear 19 = .ok (.getfield 17, 3) := by decide +kernel
theorem dX5_linear_22 : decode cX5_linear 22 = .ok (.iload_n 2, 1) := by decide +kernel
theorem dX5_linear_23 : decode cX5_linear 23 = .ok (.iload_n 1, 1) := by decide +kernel
theorem dX5_linear_24 : decode cX5_linear 24 = .ok (.iload_n 2, 1) := by decide +kernel
theorem dX5_linear_25 : decode cX5_linear 25 = .ok (.invokestatic 50, 3) := by decide +kernel
theorem dX5_linear_28 : decode cX5_linear 28 = .ok (.iastore, 1) := by decide +kernel
theorem dX5_linear_29 : decode cX5_linear 29 = .ok (.iinc 2 1, 3) := by decide +kernel
theorem dX5_linear_32 : decode cX5_linear 32 = .ok (.goto (-20), 3) := by decide +kernel
theorem dX5_linear_35 : decode cX5_linear 35 = .ok (.iconst 1, 1) := by decide +kernel
theorem dX5_linear_36 : decode cX5_linear 36 = .ok (.ireturn, 1) := by decide +kernel
set_option maxRecDepth 20000 in
theorem ggX5_isPoint_X5_in : GoodIn wsX5_isPoint wsX5_in := goodIn_r _ [4] (by decide +kernel) (by decide +kernel)
set_option maxRecDepth 20000 in
theorem gX5_isPoint_X5_in : GoodIn wsX5_isPoint (va_wsS RX5 32 yX5_in wsX5_in) := goodIn_app (goodIn_of _ (by decide +kernel)) ggX5_isPoint_X5_in
theorem dX5_isPoint_0 : decode cX5_isPoint 0 = .ok (.iload_n 0, 1) := by decide +kernel
theorem dX5_isPoint_1 : decode cX5_isPoint 1 = .ok (.iconst 0, 1) := by decide +kernel
theorem dX5_isPoint_2 : decode cX5_isPoint 2 = .ok (.iconst 5, 1) := by decide +kernel
theorem dX5_isPoint_3 : decode cX5_isPoint 3 = .ok (.invokestatic 32, 3) := by decide +kernel
theorem dX5_isPoint_6 : decode cX5_isPoint 6 = .ok (.ireturn, 1) := by decide +kernel
set_option maxRecDepth 20000 in
theorem ggX5_line_X5_isPoint : GoodIn wsX5_line wsX5_isPoint := goodIn_r _ [5, 6, 7, 4, 8] (by decide +kernel) (by decide +kernel)
set_option maxRecDepth 20000 in
theorem gX5_line_X5_isPoint : GoodIn wsX5_line (va_wsS RX5 54 yX5_isPoint wsX5_isPoint) := goodIn_app (goodIn_of _ (by decide +kernel)) ggX5_line_X5_isPoint
theorem dX5_line_0 : decode cX5_line 0 = .ok (.iload_n 1, 1) := by decide +kernel
theorem dX5_line_1 : decode cX5_line 1 = .ok (.invokestatic 54, 3) := by decide +kernel
theorem dX5_line_4 : decode cX5_line 4 = .ok (.ifCond .eq 15, 3) := by decide +kernel
theorem dX5_line_7 : decode cX5_line 7 = .ok (.iload_n 2, 1) := by decide +kernel
theorem dX5_line_8 : decode cX5_line 8 = .ok (.invokestatic 54, 3) := by decide +kernel
theorem dX5_line_11 : decode cX5_line 11 = .ok (.ifCond .eq 8, 3) := by decide +kernel
theorem dX5_line_14 : decode cX5_line 14 = .ok (.iload_n 1, 1) := by decide +kernel
theorem dX5_line_15 : decode cX5_line 15 = .ok (.iload_n 2, 1) := by decide +kernel
theorem dX5_line_16 : decode cX5_line 16 = .ok (.if_icmp .ne 6, 3) := by decide +kernel
theorem dX5_line_19 : decode cX5_line 19 = .ok (.bipush (-2), 2) := by decide +kernel
theorem dX5_line_21 : decode cX5_line 21 = .ok (.ireturn, 1) := by decide +kernel
theorem dX5_line_22 : decode cX5_line 22 = .ok (.aload_n 0, 1) := by decide +kernel
theorem dX5_line_23 : decode cX5_line 23 = .ok (.getfield 20, 3) := by decide +kernel
theorem dX5_line_26 : decode cX5_line 26 = .ok (.iload_n 1, 1) := by decide +kernel
theorem dX5_line_27 : decode cX5_line 27 = .ok (.iaload, 1) := by decide +kernel
theorem dX5_line_28 : decode cX5_line 28 = .ok (.iload_n 2, 1) := by decide +kernel
theorem dX5_line_29 : decode cX5_line 29 = .ok (.ishr, 1) := by decide +kernel
theorem dX5_line_30 : decode cX5_line 30 = .ok (.iconst 1, 1) := by decide +kernel
theorem dX5_line_31 : decode cX5_line 31 = .ok (.iand, 1) := by decide +kernel
theorem dX5_line_32 : decode cX5_line 32 = .ok (.istore 4, 2) := by decide +kernel
theorem dX5_line_34 : decode cX5_line 34 = .ok (.aload_n 0, 1) := by decide +kernel
theorem dX5_line_35 : decode cX5_line 35 = .ok (.getfield 20, 3) := by decide +kernel
theorem dX5_line_38 : decode cX5_line 38 = .ok (.iload_n 1, 1) := by decide +kernel
theorem dX5_line_39 : decode cX5_line 39 = .ok (.iload_n 3, 1) := by decide +kernel
theorem dX5_line_40 : decode cX5_line 40 = .ok (.ifCond .eq 16, 3) := by decide +kernel
theorem dX5_line_43 : decode cX5_line 43 = .ok (.aload_n 0, 1) := by decide +kernel
theorem dX5_line_44 : decode cX5_line 44 = .ok (.getfield 20, 3) := by decide +kernel
theorem dX5_line_47 : decode cX5_line 47 = .ok (.iload_n 1, 1) := by decide +kernel
theorem dX5_line_48 : decode cX5_line 48 = .ok (.iaload, 1) := by decide +kernel
theorem dX5_line_49 : decode cX5_line 49 = .ok (.iconst 1, 1) := by decide +kernel
theorem dX5_line_50 : decode cX5_line 50 = .ok (.iload_n 2, 1) := by decide +kernel
theorem dX5_line_51 : decode cX5_line 51 = .ok (.ishl, 1) := by decide +kernel
theorem dX5_line_52 : decode cX5_line 52 = .ok (.ior, 1) := by decide +kernel
theorem dX5_line_53 : decode cX5_line 53 = .ok (.goto 15, 3) := by decide +kernel
theorem dX5_line_56 : decode cX5_line 56 = .ok (.aload_n 0, 1) := by decide +kernel
theorem dX5_line_57 : decode cX5_line 57 = .ok (.getfield 20, 3) := by decide +kernel
theorem dX5_line_60 : decode cX5_line 60 = .ok (.iload_n 1, 1) := by decide +kernel
theorem dX5_line_61 : decode cX5_line 61 = .ok (.iaload, 1) := by decide +kernel
theorem dX5_line_62 : decode cX5_line 62 = .ok (.iconst 1, 1) := by decide +kernel
theorem dX5_line_63 : decode cX5_line 63 = .ok (.iload_n 2, 1) := by decide +kernel
theorem dX5_line_64 : decode cX5_line 64 = .ok (.ishl, 1) := by decide +kernel
theorem dX5_line_65 : decode cX5_line 65 = .ok (.iconst (-1), 1) := by decide +kernel
theorem dX5_line_66 : decode cX5_line 66 = .ok (.ixor, 1) := by decide +kernel
theorem dX5_line_67 : decode cX5_line 67 = .ok (.iand, 1) := by decide +kernel
theorem dX5_line_68 : decode cX5_line 68 = .ok (.iastore, 1) := by decide +kernel
theorem dX5_line_69 : decode cX5_line 69 = .ok (.aload_n 0, 1) := by decide +kernel
theorem dX5_line_70 : decode cX5_line 70 = .ok (.getfield 20, 3) := by decide +kernel
theorem dX5_line_73 : decode cX5_line 73 = .ok (.iload_n 2, 1) := by decide +kernel
theorem dX5_line_74 : decode cX5_line 74 = .ok (.iload_n 3, 1) := by decide +kernel
theorem dX5_line_75 : decode cX5_line 75 = .ok (.ifCond .eq 16, 3) := by decide +kernel
theorem dX5_line_78 : decode cX5_line 78 = .ok (.aload_n 0, 1) := by decide +kernel
theorem dX5_line_79 : decode cX5_line 79 = .ok (.getfield 20, 3) := by decide +kernel
theorem dX5_line_82 : decode cX5_line 82 = .ok (.iload_n 2, 1) := by decide +kernel
theorem dX5_line_83 : decode cX5_line 83 = .ok (.iaload, 1) := by decide +kernel
theorem dX5_line_84 : decode cX5_line 84 = .ok (.iconst 1, 1) := by decide +kernel
theorem dX5_line_85 : decode cX5_line 85 = .ok (.iload_n 1, 1) := by decide +kernel
theorem dX5_line_86 : decode cX5_line 86 = .ok (.ishl, 1) := by decide +kernel
theorem dX5_line_87 : decode cX5_line 87 = .ok (.ior, 1) := by decide +kernel
theorem dX5_line_88 : decode cX5_line 88 = .ok (.goto 15, 3) := by decide +kernel
theorem dX5_line_91 : decode cX5_line 91 = .ok (.aload_n 0, 1) := by decide +kernel
theorem dX5_line_92 : decode cX5_line 92 = .ok (.getfield 20, 3) := by decide +kernel
theorem dX5_line_95 : decode cX5_line 95 = .ok (.iload_n 2, 1) := by decide +kernel
theorem dX5_line_96 : decode cX5_line 96 = .ok (.iaload, 1) := by decide +kernel
theorem dX5_line_97 : decode cX5_line 97 = .ok (.iconst 1, 1) := by decide +kernel
theorem dX5_line_98 : decode cX5_line 98 = .ok (.iload_n 1, 1) := by decide +kernel
theorem dX5_line_99 : decode cX5_line 99 = .ok (.ishl, 1) := by decide +kernel
theorem dX5_line_100 : decode cX5_line 100 = .ok (.iconst (-1), 1) := by decide +kernel
theorem dX5_line_101 : decode cX5_line 101 = .ok (.ixor, 1) := by decide +kernel
theorem dX5_line_102 : decode cX5_line 102 = .ok (.iand, 1) := by decide +kernel
theorem dX5_line_103 : decode cX5_line 103 = .ok (.iastore, 1) := by decide +kernel
theorem dX5_line_104 : decode cX5_line 104 = .ok (.iload 4, 2) := by decide +kernel
theorem dX5_line_106 : decode cX5_line 106 = .ok (.ireturn, 1) := by decide +kernel
set_option maxRecDepth 20000 in
theorem ggX5_draw_X5_in : GoodIn wsX5_draw wsX5_in := goodIn_r _ [5] (by decide +kernel) (by decide +kernel)
set_option maxRecDepth 20000 in
theorem gX5_draw_X5_in : GoodIn wsX5_draw (va_wsS RX5 32 yX5_in wsX5_in) := goodIn_app (goodIn_of _ (by decide +kernel)) ggX5_draw_X5_in
theorem dX5_draw_0 : decode cX5_draw 0 = .ok (.iload_n 1, 1) := by decide +kernel
theorem dX5_draw_1 : decode cX5_draw 1 = .ok (.iconst 1, 1) := by decide +kernel
theorem dX5_draw_2 : decode cX5_draw 2 = .ok (.bipush 6, 2) := by decide +kernel
theorem dX5_draw_4 : decode cX5_draw 4 = .ok (.invokestatic 32, 3) := by decide +kernel
theorem dX5_draw_7 : decode cX5_draw 7 = .ok (.ifCond .ne 6, 3) := by decide +kernel
theorem dX5_draw_10 : decode cX5_draw 10 = .ok (.bipush (-2), 2) := by decide +kernel
theorem dX5_draw_12 : decode cX5_draw 12 = .ok (.ireturn, 1) := by decide +kernel
theorem dX5_draw_13 : decode cX5_draw 13 = .ok (.aload_n 0, 1) := by decide +kernel
theorem dX5_draw_14 : decode cX5_draw 14 = .ok (.getfield 23, 3) := by decide +kernel
theorem dX5_draw_17 : decode cX5_draw 17 = .ok (.istore_n 2, 1) := by decide +kernel
theorem dX5_draw_18 : decode cX5_draw 18 = .ok (.aload_n 0, 1) := by decide +kernel
theorem dX5_draw_19 : decode cX5_draw 19 = .ok (.iload_n 1, 1) := by decide +kernel
theorem dX5_draw_20 : decode cX5_draw 20 = .ok (.putfield 23, 3) := by decide +kernel
theorem dX5_draw_23 : decode cX5_draw 23 = .ok (.iload_n 2, 1) := by decide +kernel
theorem dX5_draw_24 : decode cX5_draw 24 = .ok (.ireturn, 1) := by decide +kernel
theorem dX5_takeRow_0 : decode cX5_takeRow 0 = .ok (.iconst 0, 1) := by decide +kernel
theorem dX5_takeRow_1 : decode cX5_takeRow 1 = .ok (.istore_n 1, 1) := by decide +kernel
theorem dX5_takeRow_2 : decode cX5_takeRow 2 = .ok (.iload_n 1, 1) := by decide +kernel
theorem dX5_takeRow_3 : decode cX5_takeRow 3 = .ok (.aload_n 0, 1) := by decide +kernel
theorem dX5_takeRow_4 : decode cX5_takeRow 4 = .ok (.getfield 7, 3) := by decide +kernel
theorem dX5_takeRow_7 : decode cX5_takeRow 7 = .ok (.if_icmp .ge 21, 3) := by decide +kernel
theorem dX5_takeRow_10 : decode cX5_takeRow 10 = .ok (.aload_n 0, 1) := by decide +kernel
theorem dX5_takeRow_11 : decode cX5_takeRow 11 = .ok (.getfield 26, 3) := by decide +kernel
theorem dX5_takeRow_14 : decode cX5_takeRow 14 = .ok (.iload_n 1, 1) := by decide +kernel
theorem dX5_takeRow_15 : decode cX5_takeRow 15 = .ok (.aload_n 0, 1) := by decide +kernel
theorem dX5_takeRow_16 : decode cX5_takeRow 16 = .ok (.getfield 13, 3) := by decide +kernel
theorem dX5_takeRow_19 : decode cX5_takeRow 19 = .ok (.iload_n 1, 1) := by decide +kernel
theorem dX5_takeRow_20 : decode cX5_takeRow 20 = .ok (.iaload, 1) := by decide +kernel
theorem dX5_takeRow_21 : decode cX5_takeRow 21 = .ok (.iastore, 1) := by decide +kernel
theorem dX5_takeRow_22 : decode cX5_takeRow 22 = .ok (.iinc 1 1, 3) := by decide +kernel
theorem dX5_takeRow_25 : decode cX5_takeRow 25 = .ok (.goto (-23), 3) := by decide +kernel
theorem dX5_takeRow_28 : decode cX5_takeRow 28 = .ok (.return_, 1) := by decide +kernel
theorem dX5_fromRising_0 : decode cX5_fromRising 0 = .ok (.iconst 0, 1) := by decide +kernel
theorem dX5_fromRising_1 : decode cX5_fromRising 1 = .ok (.istore_n 1, 1) := by decide +kernel
theorem dX5_fromRising_2 : decode cX5_fromRising 2 = .ok (.iconst 0, 1) := by decide +kernel
theorem dX5_fromRising_3 : decode cX5_fromRising 3 = .ok (.istore_n 2, 1) := by decide +kernel
theorem dX5_fromRising_4 : decode cX5_fromRising 4 = .ok (.iload_n 2, 1) := by decide +kernel
theorem dX5_fromRising_5 : decode cX5_fromRising 5 = .ok (.aload_n 0, 1) := by decide +kernel
theorem dX5_fromRising_6 : decode cX5_fromRising 6 = .ok (.getfield 7, 3) := by decide +kernel
theorem dX5_fromRising_9 : decode cX5_fromRising 9 = .ok (.if_icmp .ge 105, 3) := by decide +kernel
theorem dX5_fromRising_12 : decode cX5_fromRising 12 = .ok (.aload_n 0, 1) := by decide +kernel
theorem dX5_fromRising_13 : decode cX5_fromRising 13 = .ok (.getfield 29, 3) := by decide +kernel
theorem dX5_fromRising_16 : decode cX5_fromRising 16 = .ok (.iload_n 2, 1) := by decide +kernel
theorem dX5_fromRising_17 : decode cX5_fromRising 17 = .ok (.iconst 1, 1) := by decide +kernel
theorem dX5_fromRising_18 : decode cX5_fromRising 18 = .ok (.iastore, 1) := by decide +kernel
theorem dX5_fromRising_19 : decode cX5_fromRising 19 = .ok (.iconst 0, 1) := by decide +kernel
theorem dX5_fromRising_20 : decode cX5_fromRising 20 = .ok (.istore_n 3, 1) := by decide +kernel
theorem dX5_fromRising_21 : decode cX5_fromRising 21 = .ok (.iload_n 3, 1) := by decide +kernel
theorem dX5_fromRising_22 : decode cX5_fromRising 22 = .ok (.iload_n 2, 1) := by decide +kernel
theorem dX5_fromRising_23 : decode cX5_fromRising 23 = .ok (.if_icmp .ge 64, 3) := by decide +kernel
theorem dX5_fromRising_26 : decode cX5_fromRising 26 = .ok (.aload_n 0, 1) := by decide +kernel
theorem dX5_fromRising_27 : decode cX5_fromRising 27 = .ok (.getfield 29, 3) := by decide +kernel
theorem dX5_fromRising_30 : decode cX5_fromRising 30 = .ok (.iload_n 2, 1) := by decide +kernel
theorem dX5_fromRising_31 : decode cX5_fromRising 31 = .ok (.aload_n 0, 1) := by decide +kernel
theorem dX5_fromRising_32 : decode cX5_fromRising 32 = .ok (.getfield 26, 3) := by decide +kernel
theorem dX5_fromRising_35 : decode cX5_fromRising 35 = .ok (.iload_n 3, 1) := by decide +kernel
theorem dX5_fromRising_36 : decode cX5_fromRising 36 = .ok (.iaload, 1) := by decide +kernel
theorem dX5_fromRising_37 : decode cX5_fromRising 37 = .ok (.aload_n 0, 1) := by decide +kernel
theorem dX5_fromRising_38 : decode cX5_fromRising 38 = .ok (.getfield 26, 3) := by decide +kernel
theorem dX5_fromRising_41 : decode cX5_fromRising 41 = .ok (.iload_n 2, 1) := by decide +kernel
theorem dX5_fromRising_42 : decode cX5_fromRising 42 = .ok (.iaload, 1) := by decide +kernel
theorem dX5_fromRising_43 : decode cX5_fromRising 43 = .ok (.if_icmp .gt 31, 3) := by decide +kernel
theorem dX5_fromRising_46 : decode cX5_fromRising 46 = .ok (.aload_n 0, 1) := by decide +kernel
theorem dX5_fromRising_47 : decode cX5_fromRising 47 = .ok (.getfield 29, 3) := by decide +kernel
theorem dX5_fromRising_50 : decode cX5_fromRising 50 = .ok (.iload_n 3, 1) := by decide +kernel
theorem dX5_fromRising_51 : decode cX5_fromRising 51 = .ok (.iaload, 1) := by decide +kernel
theorem dX5_fromRising_52 : decode cX5_fromRising 52 = .ok (.iconst 1, 1) := by decide +kernel
theorem dX5_fromRising_53 : decode cX5_fromRising 53 = .ok (.iadd, 1) := by decide +kernel
theorem dX5_fromRising_54 : decode cX5_fromRising 54 = .ok (.aload_n 0, 1) := by decide +kernel
theorem dX5_fromRising_55 : decode cX5_fromRising 55 = .ok (.getfield 29, 3) := by decide +kernel
theorem dX5_fromRising_58 : decode cX5_fromRising 58 = .ok (.iload_n 2, 1) := by decide +kernel
theorem dX5_fromRising_59 : decode cX5_fromRising 59 = .ok (.iaload, 1) := by decide +kernel
theorem dX5_fromRising_60 : decode cX5_fromRising 60 = .ok (.if_icmp .le 14, 3) := by decide +kernel
theorem dX5_fromRising_63 : decode cX5_fromRising 63 = .ok (.aload_n 0, 1) := by decide +kernel
theorem dX5_fromRising_64 : decode cX5_fromRising 64 = .ok (.getfield 29, 3) := by decide +kernel
theorem dX5_fromRising_67 : decode cX5_fromRising 67 = .ok (.iload_n 3, 1) := by decide +kernel
theorem dX5_fromRising_68 : decode cX5_fromRising 68 = .ok (.iaload, 1) := by decide +kernel
theorem dX5_fromRising_69 : decode cX5_fromRising 69 = .ok (.iconst 1, 1) := by decide +kernel
theorem dX5_fromRising_70 : decode cX5_fromRising 70 = .ok (.iadd, 1) := by decide +kernel
theorem dX5_fromRising_71 : decode cX5_fromRising 71 = .ok (.goto 9, 3) := by decide +kernel
theorem dX5_fromRising_74 : decode cX5_fromRising 74 = .ok (.aload_n 0, 1) := by decide +kernel
theorem dX5_fromRising_75 : decode cX5_fromRising 75 = .ok (.getfield 29, 3) := by decide +kernel
theorem dX5_fromRising_78 : decode cX5_fromRising 78 = .ok (.iload_n 2, 1) := by decide +kernel
theorem dX5_fromRising_79 : decode cX5_fromRising 79 = .ok (.iaload, 1) := by decide +kernel
theorem dX5_fromRising_80 : decode cX5_fromRising 80 = .ok (.iastore, 1) := by decide +kernel
theorem dX5_fromRising_81 : decode cX5_fromRising 81 = .ok (.iinc 3 1, 3) := by decide +kernel
theorem dX5_fromRising_84 : decode cX5_fromRising 84 = .ok (.goto (-63), 3) := by decide +kernel
theorem dX5_fromRising_87 : decode cX5_fromRising 87 = .ok (.aload_n 0, 1) := by decide +kernel
theorem dX5_fromRising_88 : decode cX5_fromRising 88 = .ok (.getfield 29, 3) := by decide +kernel
theorem dX5_fromRising_91 : decode cX5_fromRising 91 = .ok (.iload_n 2, 1) := by decide +kernel
theorem dX5_fromRising_92 : decode cX5_fromRising 92 = .ok (.iaload, 1) := by decide +kernel
theorem dX5_fromRising_93 : decode cX5_fromRising 93 = .ok (.iload_n 1, 1) := by decide +kernel
theorem dX5_fromRising_94 : decode cX5_fromRising 94 = .ok (.if_icmp .le 12, 3) := by decide +kernel
theorem dX5_fromRising_97 : decode cX5_fromRising 97 = .ok (.aload_n 0, 1) := by decide +kernel
theorem dX5_fromRising_98 : decode cX5_fromRising 98 = .ok (.getfield 29, 3) := by decide +kernel
theorem dX5_fromRising_101 : decode cX5_fromRising 101 = .ok (.iload_n 2, 1) := by decide +kernel
theorem dX5_fromRising_102 : decode cX5_fromRising 102 = .ok (.iaload, 1) := by decide +kernel
theorem dX5_fromRising_103 : decode cX5_fromRising 103 = .ok (.goto 4, 3) := by decide +kernel
theorem dX5_fromRising_106 : decode cX5_fromRising 106 = .ok (.iload_n 1, 1) := by decide +kernel
theorem dX5_fromRising_107 : decode cX5_fromRising 107 = .ok (.istore_n 1, 1) := by decide +kernel
theorem dX5_fromRising_108 : decode cX5_fromRising 108 = .ok (.iinc 2 1, 3) := by decide +kernel
theorem dX5_fromRising_111 : decode cX5_fromRising 111 = .ok (.goto (-107), 3) := by decide +kernel
theorem dX5_fromRising_114 : decode cX5_fromRising 114 = .ok (.aload_n 0, 1) := by decide +kernel
theorem dX5_fromRising_115 : decode cX5_fromRising 115 = .ok (.getfield 7, 3) := by decide +kernel
theorem dX5_fromRising_118 : decode cX5_fromRising 118 = .ok (.iload_n 1, 1) := by decide +kernel
theorem dX5_fromRising_119 : decode cX5_fromRising 119 = .ok (.isub, 1) := by decide +kernel
theorem dX5_fromRising_120 : decode cX5_fromRising 120 = .ok (.ireturn, 1) := by decide +kernel
theorem dX5_fromMirrored_0 : decode cX5_fromMirrored 0 = .ok (.iconst 0, 1) := by decide +kernel
theorem dX5_fromMirrored_1 : decode cX5_fromMirrored 1 = .ok (.istore_n 1, 1) := by decide +kernel
theorem dX5_fromMirrored_2 : decode cX5_fromMirrored 2 = .ok (.iconst 0, 1) := by decide +kernel
theorem dX5_fromMirrored_3 : decode cX5_fromMirrored 3 = .ok (.istore_n 2, 1) := by decide +kernel
theorem dX5_fromMirrored_4 : decode cX5_fromMirrored 4 = .ok (.iload_n 2, 1) := by decide +kernel
theorem dX5_fromMirrored_5 : decode cX5_fromMirrored 5 = .ok (.aload_n 0, 1) := by decide +kernel
theorem dX5_fromMirrored_6 : decode cX5_fromMirrored 6 = .ok (.getfield 7, 3) := by decide +kernel
theorem dX5_fromMirrored_9 : decode cX5_fromMirrored 9 = .ok (.if_icmp .ge 51, 3) := by decide +kernel
theorem dX5_fromMirrored_12 : decode cX5_fromMirrored 12 = .ok (.iload_n 1, 1) := by decide +kernel
theorem dX5_fromMirrored_13 : decode cX5_fromMirrored 13 = .ok (.iload_n 2, 1) := by decide +kernel
theorem dX5_fromMirrored_14 : decode cX5_fromMirrored 14 = .ok (.aload_n 0, 1) := by decide +kernel
theorem dX5_fromMirrored_15 : decode cX5_fromMirrored 15 = .ok (.getfield 7, 3) := by decide +kernel
theorem dX5_fromMirrored_18 : decode cX5_fromMirrored 18 = .ok (.iconst 1, 1) := by decide +kernel
theorem dX5_fromMirrored_19 : decode cX5_fromMirrored 19 = .ok (.isub, 1) := by decide +kernel
theorem dX5_fromMirrored_20 : decode cX5_fromMirrored 20 = .ok (.iload_n 2, 1) := by decide +kernel
theorem dX5_fromMirrored_21 : decode cX5_fromMirrored 21 = .ok (.isub, 1) := by decide +kernel
theorem dX5_fromMirrored_22 : decode cX5_fromMirrored 22 = .ok (.if_icmp .ge 29, 3) := by decide +kernel
theorem dX5_fromMirrored_25 : decode cX5_fromMirrored 25 = .ok (.aload_n 0, 1) := by decide +kernel
theorem dX5_fromMirrored_26 : decode cX5_fromMirrored 26 = .ok (.getfield 26, 3) := by decide +kernel
theorem dX5_fromMirrored_29 : decode cX5_fromMirrored 29 = .ok (.iload_n 2, 1) := by decide +kernel
theorem dX5_fromMirrored_30 : decode cX5_fromMirrored 30 = .ok (.iaload, 1) := by decide +kernel
theorem dX5_fromMirrored_31 : decode cX5_fromMirrored 31 = .ok (.aload_n 0, 1) := by decide +kernel
theorem dX5_fromMirrored_32 : decode cX5_fromMirrored 32 = .ok (.getfield 26, 3) := by decide +kernel
theorem dX5_fromMirrored_35 : decode cX5_fromMirrored 35 = .ok (.aload_n 0, 1) := by decide +kernel
theorem dX5_fromMirrored_36 : decode cX5_fromMirrored 36 = .ok (.getfield 7, 3) := by decide +kernel
theorem dX5_fromMirrored_39 : decode cX5_fromMirrored 39 = .ok (.iconst 1, 1) := by decide +kernel
theorem dX5_fromMirrored_40 : decode cX5_fromMirrored 40 = .ok (.isub, 1) := by decide +kernel
theorem dX5_fromMirrored_41 : decode cX5_fromMirrored 41 = .ok (.iload_n 2, 1) := by decide +kernel
theorem dX5_fromMirrored_42 : decode cX5_fromMirrored 42 = .ok (.isub, 1) := by decide +kernel
theorem dX5_fromMirrored_43 : decode cX5_fromMirrored 43 = .ok (.iaload, 1) := by decide +kernel
theorem dX5_fromMirrored_44 : decode cX5_fromMirrored 44 = .ok (.if_icmp .eq 7, 3) := by decide +kernel
theorem dX5_fromMirrored_47 : decode cX5_fromMirrored 47 = .ok (.iconst 1, 1) := by decide +kernel
theorem dX5_fromMirrored_48 : decode cX5_fromMirrored 48 = .ok (.goto 4, 3) := by decide +kernel
theorem dX5_fromMirrored_51 : decode cX5_fromMirrored 51 = .ok (.iconst 0, 1) := by decide +kernel
theorem dX5_fromMirrored_52 : decode cX5_fromMirrored 52 = .ok (.iadd, 1) := by decide +kernel
theorem dX5_fromMirrored_53 : decode cX5_fromMirrored 53 = .ok (.istore_n 1, 1) := by decide +kernel
theorem dX5_fromMirrored_54 : decode cX5_fromMirrored 54 = .ok (.iinc 2 1, 3) := by decide +kernel
theorem dX5_fromMirrored_57 : decode cX5_fromMirrored 57 = .ok (.goto (-53), 3) := by decide +kernel
theorem dX5_fromMirrored_60 : decode cX5_fromMirrored 60 = .ok (.iload_n 1, 1) := by decide +kernel
theorem dX5_fromMirrored_61 : decode cX5_fromMirrored 61 = .ok (.ireturn, 1) := by decide +kernel
theorem dX5_fromEven_0 : decode cX5_fromEven 0 = .ok (.iconst 0, 1) := by decide +kernel
theorem dX5_fromEven_1 : decode cX5_fromEven 1 = .ok (.istore_n 1, 1) := by decide +kernel
theorem dX5_fromEven_2 : decode cX5_fromEven 2 = .ok (.iconst 0, 1) := by decide +kernel
theorem dX5_fromEven_3 : decode cX5_fromEven 3 = .ok (.istore_n 2, 1) := by decide +kernel
theorem dX5_fromEven_4 : decode cX5_fromEven 4 = .ok (.iload_n 2, 1) := by decide +kernel
theorem dX5_fromEven_5 : decode cX5_fromEven 5 = .ok (.aload_n 0, 1) := by decide +kernel
theorem dX5_fromEven_6 : decode cX5_fromEven 6 = .ok (.getfield 7, 3) := by decide +kernel
theorem dX5_fromEven_9 : decode cX5_fromEven 9 = .ok (.if_icmp .ge 18, 3) := by decide +kernel
theorem dX5_fromEven_12 : decode cX5_fromEven 12 = .ok (.iload_n 1, 1) := by decide +kernel
theorem dX5_fromEven_13 : decode cX5_fromEven 13 = .ok (.aload_n 0, 1) := by decide +kernel
theorem dX5_fromEven_14 : decode cX5_fromEven 14 = .ok (.getfield 26, 3) := by decide +kernel
theorem dX5_fromEven_17 : decode cX5_fromEven 17 = .ok (.iload_n 2, 1) := by decide +kernel
theorem dX5_fromEven_18 : decode cX5_fromEven 18 = .ok (.iaload, 1) := by decide +kernel
theorem dX5_fromEven_19 : decode cX5_fromEven 19 = .ok (.iadd, 1) := by decide +kernel
theorem dX5_fromEven_20 : decode cX5_fromEven 20 = .ok (.istore_n 1, 1) := by decide +kernel
theorem dX5_fromEven_21 : decode cX5_fromEven 21 = .ok (.iinc 2 1, 3) := by decide +kernel
theorem dX5_fromEven_24 : decode cX5_fromEven 24 = .ok (.goto (-20), 3) := by decide +kernel
theorem dX5_fromEven_27 : decode cX5_fromEven 27 = .ok (.iload_n 1, 1) := by decide +kernel
theorem dX5_fromEven_28 : decode cX5_fromEven 28 = .ok (.iconst 2, 1) := by decide +kernel
theorem dX5_fromEven_29 : decode cX5_fromEven 29 = .ok (.irem, 1) := by decide +kernel
theorem dX5_fromEven_30 : decode cX5_fromEven 30 = .ok (.ireturn, 1) := by decide +kernel
theorem dX5_fromShift_0 : decode cX5_fromShift 0 = .ok (.iconst 0, 1) := by decide +kernel
theorem dX5_fromShift_1 : decode cX5_fromShift 1 = .ok (.istore_n 2, 1) := by decide +kernel
theorem dX5_fromShift_2 : decode cX5_fromShift 2 = .ok (.iconst 0, 1) := by decide +kernel
theorem dX5_fromShift_3 : decode cX5_fromShift 3 = .ok (.istore_n 3, 1) := by decide +kernel
theorem dX5_fromShift_4 : decode cX5_fromShift 4 = .ok (.iconst 0, 1) := by decide +kernel
theorem dX5_fromShift_5 : decode cX5_fromShift 5 = .ok (.istore 4, 2) := by decide +kernel
theorem dX5_fromShift_7 : decode cX5_fromShift 7 = .ok (.iload 4, 2) := by decide +kernel
theorem dX5_fromShift_9 : decode cX5_fromShift 9 = .ok (.aload_n 0, 1) := by decide +kernel
theorem dX5_fromShift_10 : decode cX5_fromShift 10 = .ok (.getfield 7, 3) := by decide +kernel
theorem dX5_fromShift_13 : decode cX5_fromShift 13 = .ok (.if_icmp .ge 131, 3) := by decide +kernel
theorem dX5_fromShift_16 : decode cX5_fromShift 16 = .ok (.iload_n 2, 1) := by decide +kernel
theorem dX5_fromShift_17 : decode cX5_fromShift 17 = .ok (.iload 4, 2) := by decide +kernel
theorem dX5_fromShift_19 : decode cX5_fromShift 19 = .ok (.ishr, 1) := by decide +kernel
theorem dX5_fromShift_20 : decode cX5_fromShift 20 = .ok (.iconst 1, 1) := by decide +kernel
theorem dX5_fromShift_21 : decode cX5_fromShift 21 = .ok (.iand, 1) := by decide +kernel
theorem dX5_fromShift_22 : decode cX5_fromShift 22 = .ok (.ifCond .ne 116, 3) := by decide +kernel
theorem dX5_fromShift_25 : decode cX5_fromShift 25 = .ok (.iconst 0, 1) := by decide +kernel
theorem dX5_fromShift_26 : decode cX5_fromShift 26 = .ok (.istore 5, 2) := by decide +kernel
theorem dX5_fromShift_28 : decode cX5_fromShift 28 = .ok (.iconst 0, 1) := by decide +kernel
theorem dX5_fromShift_29 : decode cX5_fromShift 29 = .ok (.istore 6, 2) := by decide +kernel
theorem dX5_fromShift_31 : decode cX5_fromShift 31 = .ok (.iconst 0, 1) := by decide +kernel
theorem dX5_fromShift_32 : decode cX5_fromShift 32 = .ok (.istore 7, 2) := by decide +kernel
theorem dX5_fromShift_34 : decode cX5_fromShift 34 = .ok (.iload 7, 2) := by decide +kernel
theorem dX5_fromShift_36 : decode cX5_fromShift 36 = .ok (.iconst 4, 1) := by decide +kernel
theorem dX5_fromShift_37 : decode cX5_fromShift 37 = .ok (.if_icmp .ge 93, 3) := by decide +kernel
theorem dX5_fromShift_40 : decode cX5_fromShift 40 = .ok (.iconst 0, 1) := by decide +kernel
theorem dX5_fromShift_41 : decode cX5_fromShift 41 = .ok (.istore 8, 2) := by decide +kernel
theorem dX5_fromShift_43 : decode cX5_fromShift 43 = .ok (.iconst 0, 1) := by decide +kernel
theorem dX5_fromShift_44 : decode cX5_fromShift 44 = .ok (.istore 5, 2) := by decide +kernel
theorem dX5_fromShift_46 : decode cX5_fromShift 46 = .ok (.iload 4, 2) := by decide +kernel
theorem dX5_fromShift_48 : decode cX5_fromShift 48 = .ok (.istore 9, 2) := by decide +kernel
theorem dX5_fromShift_50 : decode cX5_fromShift 50 = .ok (.iload 5, 2) := by decide +kernel
theorem dX5_fromShift_52 : decode cX5_fromShift 52 = .ok (.ifCond .eq 10, 3) := by decide +kernel
theorem dX5_fromShift_55 : decode cX5_fromShift 55 = .ok (.iload 9, 2) := by decide +kernel
theorem dX5_fromShift_57 : decode cX5_fromShift 57 = .ok (.iload 4, 2) := by decide +kernel
theorem dX5_fromShift_59 : decode cX5_fromShift 59 = .ok (.if_icmp .eq 49, 3) := by decide +kernel
theorem dX5_fromShift_62 : decode cX5_fromShift 62 = .ok (.iload 8, 2) := by decide +kernel
theorem dX5_fromShift_64 : decode cX5_fromShift 64 = .ok (.aload_n 0, 1) := by decide +kernel
theorem dX5_fromShift_65 : decode cX5_fromShift 65 = .ok (.getfield 26, 3) := by decide +kernel
theorem dX5_fromShift_68 : decode cX5_fromShift 68 = .ok (.iload 9, 2) := by decide +kernel
theorem dX5_fromShift_70 : decode cX5_fromShift 70 = .ok (.iaload, 1) := by decide +kernel
theorem dX5_fromShift_71 : decode cX5_fromShift 71 = .ok (.iload 7, 2) := by decide +kernel
theorem dX5_fromShift_73 : decode cX5_fromShift 73 = .ok (.if_icmp .ne 7, 3) := by decide +kernel
theorem dX5_fromShift_76 : decode cX5_fromShift 76 = .ok (.iconst 1, 1) := by decide +kernel
theorem dX5_fromShift_77 : decode cX5_fromShift 77 = .ok (.goto 4, 3) := by decide +kernel
theorem dX5_fromShift_80 : decode cX5_fromShift 80 = .ok (.iconst 0, 1) := by decide +kernel
theorem dX5_fromShift_81 : decode cX5_fromShift 81 = .ok (.iadd, 1) := by decide +kernel
theorem dX5_fromShift_82 : decode cX5_fromShift 82 = .ok (.istore 8, 2) := by decide +kernel
theorem dX5_fromShift_84 : decode cX5_fromShift 84 = .ok (.iinc 5 1, 3) := by decide +kernel
theorem dX5_fromShift_87 : decode cX5_fromShift 87 = .ok (.iload_n 2, 1) := by decide +kernel
theorem dX5_fromShift_88 : decode cX5_fromShift 88 = .ok (.iconst 1, 1) := by decide +kernel
theorem dX5_fromShift_89 : decode cX5_fromShift 89 = .ok (.iload 9, 2) := by decide +kernel
theorem dX5_fromShift_91 : decode cX5_fromShift 91 = .ok (.ishl, 1) := by decide +kernel
theorem dX5_fromShift_92 : decode cX5_fromShift 92 = .ok (.ior, 1) := by decide +kernel
theorem dX5_fromShift_93 : decode cX5_fromShift 93 = .ok (.istore_n 2, 1) := by decide +kernel
theorem dX5_fromShift_94 : decode cX5_fromShift 94 = .ok (.iload 9, 2) := by decide +kernel
theorem dX5_fromShift_96 : decode cX5_fromShift 96 = .ok (.iload_n 1, 1) := by decide +kernel
theorem dX5_fromShift_97 : decode cX5_fromShift 97 = .ok (.iadd, 1) := by decide +kernel
theorem dX5_fromShift_98 : decode cX5_fromShift 98 = .ok (.aload_n 0, 1) := by decide +kernel
theorem dX5_fromShift_99 : decode cX5_fromShift 99 = .ok (.getfield 7, 3) := by decide +kernel
theorem dX5_fromShift_102 : decode cX5_fromShift 102 = .ok (.irem, 1) := by decide +kernel
theorem dX5_fromShift_103 : decode cX5_fromShift 103 = .ok (.istore 9, 2) := by decide +kernel
theorem dX5_fromShift_105 : decode cX5_fromShift 105 = .ok (.goto (-55), 3) := by decide +kernel
theorem dX5_fromShift_108 : decode cX5_fromShift 108 = .ok (.iload 8, 2) := by decide +kernel
theorem dX5_fromShift_110 : decode cX5_fromShift 110 = .ok (.iload 6, 2) := by decide +kernel
theorem dX5_fromShift_112 : decode cX5_fromShift 112 = .ok (.if_icmp .le 8, 3) := by decide +kernel
theorem dX5_fromShift_115 : decode cX5_fromShift 115 = .ok (.iload 8, 2) := by decide +kernel
theorem dX5_fromShift_117 : decode cX5_fromShift 117 = .ok (.goto 5, 3) := by decide +kernel
theorem dX5_fromShift_120 : decode cX5_fromShift 120 = .ok (.iload 6, 2) := by decide +kernel
theorem dX5_fromShift_122 : decode cX5_fromShift 122 = .ok (.istore 6, 2) := by decide +kernel
theorem dX5_fromShift_124 : decode cX5_fromShift 124 = .ok (.iinc 7 1, 3) := by decide +kernel
theorem dX5_fromShift_127 : decode cX5_fromShift 127 = .ok (.goto (-93), 3) := by decide +kernel
theorem dX5_fromShift_130 : decode cX5_fromShift 130 = .ok (.iload_n 3, 1) := by decide +kernel
theorem dX5_fromShift_131 : decode cX5_fromShift 131 = .ok (.iload 5, 2) := by decide +kernel
theorem dX5_fromShift_133 : decode cX5_fromShift 133 = .ok (.iload 6, 2) := by decide +kernel
theorem dX5_fromShift_135 : decode cX5_fromShift 135 = .ok (.isub, 1) := by decide +kernel
theorem dX5_fromShift_136 : decode cX5_fromShift 136 = .ok (.iadd, 1) := by decide +kernel
theorem dX5_fromShift_137 : decode cX5_fromShift 137 = .ok (.istore_n 3, 1) := by decide +kernel
theorem dX5_fromShift_138 : decode cX5_fromShift 138 = .ok (.iinc 4 1, 3) := by decide +kernel
theorem dX5_fromShift_141 : decode cX5_fromShift 141 = .ok (.goto (-134), 3) := by decide +kernel
theorem dX5_fromShift_144 : decode cX5_fromShift 144 = .ok (.iload_n 3, 1) := by decide +kernel
theorem dX5_fromShift_145 : decode cX5_fromShift 145 = .ok (.ireturn, 1) := by decide +kernel
set_option maxRecDepth 20000 in
theorem ggX5_fromRound_X5_fromShift : GoodIn wsX5_fromRound wsX5_fromShift := goodIn_r _ [6, 1, 7, 8, 9, 10, 11, 12, 13, 14, 15, 16, 17, 18] (by decide +kernel) (by decide +kernel)
set_option maxRecDepth 20000 in
theorem gX5_fromRound_X5_fromShift : GoodIn wsX5_fromRound (wsV RX5 57 RX5 yX5_fromShift wsX5_fromShift) := goodIn_app (goodIn_of _ (by decide +kernel)) ggX5_fromRound_X5_fromShift
theorem dX5_fromRound_0 : decode cX5_fromRound 0 = .ok (.aload_n 0, 1) := by decide +kernel
theorem dX5_fromRound_1 : decode cX5_fromRound 1 = .ok (.getfield 7, 3) := by decide +kernel
theorem dX5_fromRound_4 : decode cX5_fromRound 4 = .ok (.istore_n 1, 1) := by decide +kernel
theorem dX5_fromRound_5 : decode cX5_fromRound 5 = .ok (.iconst 1, 1) := by decide +kernel
theorem dX5_fromRound_6 : decode cX5_fromRound 6 = .ok (.istore_n 2, 1) := by decide +kernel
theorem dX5_fromRound_7 : decode cX5_fromRound 7 = .ok (.iload_n 2, 1) := by decide +kernel
theorem dX5_fromRound_8 : decode cX5_fromRound 8 = .ok (.aload_n 0, 1) := by decide +kernel
theorem dX5_fromRound_9 : decode cX5_fromRound 9 = .ok (.getfield 7, 3) := by decide +kernel
theorem dX5_fromRound_12 : decode cX5_fromRound 12 = .ok (.if_icmp .ge 26, 3) := by decide +kernel
theorem dX5_fromRound_15 : decode cX5_fromRound 15 = .ok (.aload_n 0, 1) := by decide +kernel
theorem dX5_fromRound_16 : decode cX5_fromRound 16 = .ok (.iload_n 2, 1) := by decide +kernel
theorem dX5_fromRound_17 : decode cX5_fromRound 17 = .ok (.invokevirtual 57, 3) := by decide +kernel
theorem dX5_fromRound_20 : decode cX5_fromRound 20 = .ok (.istore_n 3, 1) := by decide +kernel
theorem dX5_fromRound_21 : decode cX5_fromRound 21 = .ok (.iload_n 3, 1) := by decide +kernel
theorem dX5_fromRound_22 : decode cX5_fromRound 22 = .ok (.iload_n 1, 1) := by decide +kernel
theorem dX5_fromRound_23 : decode cX5_fromRound 23 = .ok (.if_icmp .ge 7, 3) := by decide +kernel
theorem dX5_fromRound_26 : decode cX5_fromRound 26 = .ok (.iload_n 3, 1) := by decide +kernel
theorem dX5_fromRound_27 : decode cX5_fromRound 27 = .ok (.goto 4, 3) := by decide +kernel
theorem dX5_fromRound_30 : decode cX5_fromRound 30 = .ok (.iload_n 1, 1) := by decide +kernel
theorem dX5_fromRound_31 : decode cX5_fromRound 31 = .ok (.istore_n 1, 1) := by decide +kernel
theorem dX5_fromRound_32 : decode cX5_fromRound 32 = .ok (.iinc 2 1, 3) := by decide +kernel
theorem dX5_fromRound_35 : decode cX5_fromRound 35 = .ok (.goto (-28), 3) := by decide +kernel
theorem dX5_fromRound_38 : decode cX5_fromRound 38 = .ok (.iload_n 1, 1) := by decide +kernel
theorem dX5_fromRound_39 : decode cX5_fromRound 39 = .ok (.ireturn, 1) := by decide +kernel
set_option maxRecDepth 20000 in
theorem ggX5_fromKind_X5_fromRising : GoodIn wsX5_fromKind wsX5_fromRising := goodIn_r _ [5, 6, 7, 8, 25, 26, 27, 28, 29, 30, 31, 32, 33, 34, 35] (by decide +kernel) (by decide +kernel)
set_option maxRecDepth 20000 in
theorem gX5_fromKind_X5_fromRising : GoodIn wsX5_fromKind (wsV RX5 60 RX5 yX5_fromRising wsX5_fromRising) := goodIn_app (goodIn_of _ (by decide +kernel)) ggX5_fromKind_X5_fromRising
set_option maxRecDepth 20000 in
theorem ggX5_fromKind_X5_fromMirrored : GoodIn wsX5_fromKind wsX5_fromMirrored := goodIn_r _ [12, 6, 8, 25, 26, 27, 28, 29, 30, 31, 32, 33, 34, 35] (by decide +kernel) (by decide +kernel)
set_option maxRecDepth 20000 in
theorem gX5_fromKind_X5_fromMirrored : GoodIn wsX5_fromKind (wsV RX5 64 RX5 yX5_fromMirrored wsX5_fromMirrored) := goodIn_app (goodIn_of _ (by decide +kernel)) ggX5_fromKind_X5_fromMirrored
set_option maxRecDepth 20000 in
theorem ggX5_fromKind_X5_fromEven : GoodIn wsX5_fromKind wsX5_fromEven := goodIn_r _ [16, 6, 8, 25, 26, 27, 28, 29, 30, 31, 32, 33, 34, 35] (by decide +kernel) (by decide +kernel)
set_option maxRecDepth 20000 in
theorem gX5_fromKind_X5_fromEven : GoodIn wsX5_fromKind (wsV RX5 67 RX5 yX5_fromEven wsX5_fromEven) := goodIn_app (goodIn_of _ (by decide +kernel)) ggX5_fromKind_X5_fromEven
set_option maxRecDepth 20000 in
theorem ggX5_fromKind_X5_fromRound : GoodIn wsX5_fromKind wsX5_fromRound := goodIn_r _ [20, 6, 21, 22, 23, 4, 24, 8, 25, 26, 27, 28, 29, 30, 31, 32, 33, 34, 35] (by decide +kernel) (by decide +kernel)
set_option maxRecDepth 20000 in
theorem gX5_fromKind_X5_fromRound : GoodIn wsX5_fromKind (wsV RX5 70 RX5 yX5_fromRound wsX5_fromRound) := goodIn_app (goodIn_of _ (by decide +kernel)) ggX5_fromKind_X5_fromRound
theorem dX5_fromKind_0 : decode cX5_fromKind 0 = .ok (.iload_n 1, 1) := by decide +kernel
theorem dX5_fromKind_1 : decode cX5_fromKind 1 = .ok (.ifCond .ne 10, 3) := by decide +kernel
theorem dX5_fromKind_4 : decode cX5_fromKind 4 = .ok (.aload_n 0, 1) := by decide +kernel
theorem dX5_fromKind_5 : decode cX5_fromKind 5 = .ok (.invokevirtual 60, 3) := by decide +kernel
theorem dX5_fromKind_8 : decode cX5_fromKind 8 = .ok (.goto 31, 3) := by decide +kernel
theorem dX5_fromKind_11 : decode cX5_fromKind 11 = .ok (.iload_n 1, 1) := by decide +kernel
theorem dX5_fromKind_12 : decode cX5_fromKind 12 = .ok (.iconst 1, 1) := by decide +kernel
theorem dX5_fromKind_13 : decode cX5_fromKind 13 = .ok (.if_icmp .ne 10, 3) := by decide +kernel
theorem dX5_fromKind_16 : decode cX5_fromKind 16 = .ok (.aload_n 0, 1) := by decide +kernel
theorem dX5_fromKind_17 : decode cX5_fromKind 17 = .ok (.invokevirtual 64, 3) := by decide +kernel
theorem dX5_fromKind_20 : decode cX5_fromKind 20 = .ok (.goto 19, 3) := by decide +kernel
theorem dX5_fromKind_23 : decode cX5_fromKind 23 = .ok (.iload_n 1, 1) := by decide +kernel
theorem dX5_fromKind_24 : decode cX5_fromKind 24 = .ok (.iconst 2, 1) := by decide +kernel
theorem dX5_fromKind_25 : decode cX5_fromKind 25 = .ok (.if_icmp .ne 10, 3) := by decide +kernel
theorem dX5_fromKind_28 : decode cX5_fromKind 28 = .ok (.aload_n 0, 1) := by decide +kernel
theorem dX5_fromKind_29 : decode cX5_fromKind 29 = .ok (.invokevirtual 67, 3) := by decide +kernel
theorem dX5_fromKind_32 : decode cX5_fromKind 32 = .ok (.goto 7, 3) := by decide +kernel
theorem dX5_fromKind_35 : decode cX5_fromKind 35 = .ok (.aload_n 0, 1) := by decide +kernel
theorem dX5_fromKind_36 : decode cX5_fromKind 36 = .ok (.invokevirtual 70, 3) := by decide +kernel
theorem dX5_fromKind_39 : decode cX5_fromKind 39 = .ok (.ireturn, 1) := by decide +kernel
set_option maxRecDepth 20000 in
theorem ggX5_rowDistance_X5_takeRow : GoodIn wsX5_rowDistance wsX5_takeRow := goodIn_r _ [5, 6, 7, 8, 34, 35, 36, 37, 38, 39, 40, 41, 42, 43, 44] (by decide +kernel) (by decide +kernel)
set_option maxRecDepth 20000 in
theorem gX5_rowDistance_X5_takeRow : GoodIn wsX5_rowDistance (wsV RX5 73 RX5 yX5_takeRow wsX5_takeRow) := goodIn_app (goodIn_of _ (by decide +kernel)) ggX5_rowDistance_X5_takeRow
set_option maxRecDepth 20000 in
theorem ggX5_rowDistance_X5_fromKind : GoodIn wsX5_rowDistance wsX5_fromKind := goodIn_r _ [12, 13, 14, 15, 4, 16, 6, 17, 7, 18, 19, 20, 21, 22, 23, 24, 25, 26, 27, 28, 29, 30, 31, 32, 33, 34, 35, 36, 37, 38, 39, 40, 41, 42, 43, 44] (by decide +kernel) (by decide +kernel)
set_option maxRecDepth 20000 in
theorem gX5_rowDistance_X5_fromKind : GoodIn wsX5_rowDistance (wsV RX5 76 RX5 yX5_fromKind wsX5_fromKind) := goodIn_app (goodIn_of _ (by decide +kernel)) ggX5_rowDistance_X5_fromKind
theorem dX5_rowDistance_0 : decode cX5_rowDistance 0 = .ok (.aload_n 0, 1) := by decide +kernel
theorem dX5_rowDistance_1 : decode cX5_rowDistance 1 = .ok (.invokevirtual 73, 3) := by decide +kernel
theorem dX5_rowDistance_4 : decode cX5_rowDistance 4 = .ok (.aload_n 0, 1) := by decide +kernel
theorem dX5_rowDistance_5 : decode cX5_rowDistance 5 = .ok (.iload_n 1, 1) := by decide +kernel
theorem dX5_rowDistance_6 : decode cX5_rowDistance 6 = .ok (.invokevirtual 76, 3) := by decide +kernel
theorem dX5_rowDistance_9 : decode cX5_rowDistance 9 = .ok (.ireturn, 1) := by decide +kernel
set_option maxRecDepth 20000 in
theorem ggX5_findNearest_X5_rowDistance : GoodIn wsX5_findNearest wsX5_rowDistance := goodIn_r _ [8, 9, 10, 11, 7, 12, 1, 2, 3, 13, 14, 15, 16, 17, 18, 19, 20, 21, 22, 23, 24, 25, 26, 27, 28, 29, 30, 31, 32, 33, 34, 35, 36, 37, 38, 39, 40, 41, 42, 43, 44, 45, 46, 47, 48] (by decide +kernel) (by decide +kernel)
set_option maxRecDepth 20000 in
theorem gX5_findNearest_X5_rowDistance : GoodIn wsX5_findNearest (wsV RX5 79 RX5 yX5_rowDistance wsX5_rowDistance) := goodIn_app (goodIn_of _ (by decide +kernel)) ggX5_findNearest_X5_rowDistance
set_option maxRecDepth 20000 in
theorem ggX5_findNearest_X5_fromKind : GoodIn wsX5_findNearest wsX5_fromKind := goodIn_r _ [16, 17, 18, 19, 7, 20, 1, 21, 2, 22, 23, 24, 25, 26, 27, 28, 29, 30, 31, 32, 33, 34, 35, 36, 37, 38, 39, 40, 41, 42, 43, 44, 45, 46, 47, 48] (by decide +kernel) (by decide +kernel)
set_option maxRecDepth 20000 in
theorem gX5_findNearest_X5_fromKind : GoodIn wsX5_findNearest (wsV RX5 76 RX5 yX5_fromKind wsX5_fromKind) := goodIn_app (goodIn_of _ (by decide +kernel)) ggX5_findNearest_X5_fromKind
theorem dX5_findNearest_0 : decode cX5_findNearest 0 = .ok (.aload_n 0, 1) := by decide +kernel
theorem dX5_findNearest_1 : decode cX5_findNearest 1 = .ok (.iload_n 1, 1) := by decide +kernel
theorem dX5_findNearest_2 : decode cX5_findNearest 2 = .ok (.invokevirtual 79, 3) := by decide +kernel
theorem dX5_findNearest_5 : decode cX5_findNearest 5 = .ok (.istore_n 2, 1) := by decide +kernel
theorem dX5_findNearest_6 : decode cX5_findNearest 6 = .ok (.iconst 0, 1) := by decide +kernel
theorem dX5_findNearest_7 : decode cX5_findNearest 7 = .ok (.istore_n 3, 1) := by decide +kernel
theorem dX5_findNearest_8 : decode cX5_findNearest 8 = .ok (.iconst 0, 1) := by decide +kernel
theorem dX5_findNearest_9 : decode cX5_findNearest 9 = .ok (.istore 4, 2) := by decide +kernel
theorem dX5_findNearest_11 : decode cX5_findNearest 11 = .ok (.iload 4, 2) := by decide +kernel
theorem dX5_findNearest_13 : decode cX5_findNearest 13 = .ok (.iconst 1, 1) := by decide +kernel
theorem dX5_findNearest_14 : decode cX5_findNearest 14 = .ok (.iconst 2, 1) := by decide +kernel
theorem dX5_findNearest_15 : decode cX5_findNearest 15 = .ok (.aload_n 0, 1) := by decide +kernel
theorem dX5_findNearest_16 : decode cX5_findNearest 16 = .ok (.getfield 7, 3) := by decide +kernel
theorem dX5_findNearest_19 : decode cX5_findNearest 19 = .ok (.imul, 1) := by decide +kernel
theorem dX5_findNearest_20 : decode cX5_findNearest 20 = .ok (.ishl, 1) := by decide +kernel
theorem dX5_findNearest_21 : decode cX5_findNearest 21 = .ok (.if_icmp .ge 104, 3) := by decide +kernel
theorem dX5_findNearest_24 : decode cX5_findNearest 24 = .ok (.iload_n 3, 1) := by decide +kernel
theorem dX5_findNearest_25 : decode cX5_findNearest 25 = .ok (.ifCond .ne 100, 3) := by decide +kernel
theorem dX5_findNearest_28 : decode cX5_findNearest 28 = .ok (.iconst 0, 1) := by decide +kernel
theorem dX5_findNearest_29 : decode cX5_findNearest 29 = .ok (.istore 5, 2) := by decide +kernel
theorem dX5_findNearest_31 : decode cX5_findNearest 31 = .ok (.iconst 0, 1) := by decide +kernel
theorem dX5_findNearest_32 : decode cX5_findNearest 32 = .ok (.istore 6, 2) := by decide +kernel
theorem dX5_findNearest_34 : decode cX5_findNearest 34 = .ok (.iload 6, 2) := by decide +kernel
theorem dX5_findNearest_36 : decode cX5_findNearest 36 = .ok (.aload_n 0, 1) := by decide +kernel
theorem dX5_findNearest_37 : decode cX5_findNearest 37 = .ok (.getfield 7, 3) := by decide +kernel
theorem dX5_findNearest_40 : decode cX5_findNearest 40 = .ok (.if_icmp .ge 59, 3) := by decide +kernel
theorem dX5_findNearest_43 : decode cX5_findNearest 43 = .ok (.aload_n 0, 1) := by decide +kernel
theorem dX5_findNearest_44 : decode cX5_findNearest 44 = .ok (.getfield 26, 3) := by decide +kernel
theorem dX5_findNearest_47 : decode cX5_findNearest 47 = .ok (.iload 6, 2) := by decide +kernel
theorem dX5_findNearest_49 : decode cX5_findNearest 49 = .ok (.iload 4, 2) := by decide +kernel
theorem dX5_findNearest_51 : decode cX5_findNearest 51 = .ok (.iconst 2, 1) := by decide +kernel
theorem dX5_findNearest_52 : decode cX5_findNearest 52 = .ok (.aload_n 0, 1) := by decide +kernel
theorem dX5_findNearest_53 : decode cX5_findNearest 53 = .ok (.getfield 7, 3) := by decide +kernel
theorem dX5_findNearest_56 : decode cX5_findNearest 56 = .ok (.iconst 1, 1) := by decide +kernel
theorem dX5_findNearest_57 : decode cX5_findNearest 57 = .ok (.isub, 1) := by decide +kernel
theorem dX5_findNearest_58 : decode cX5_findNearest 58 = .ok (.iload 6, 2) := by decide +kernel
theorem dX5_findNearest_60 : decode cX5_findNearest 60 = .ok (.isub, 1) := by decide +kernel
theorem dX5_findNearest_61 : decode cX5_findNearest 61 = .ok (.imul, 1) := by decide +kernel
theorem dX5_findNearest_62 : decode cX5_findNearest 62 = .ok (.ishr, 1) := by decide +kernel
theorem dX5_findNearest_63 : decode cX5_findNearest 63 = .ok (.iconst 3, 1) := by decide +kernel
theorem dX5_findNearest_64 : decode cX5_findNearest 64 = .ok (.iand, 1) := by decide +kernel
theorem dX5_findNearest_65 : decode cX5_findNearest 65 = .ok (.iastore, 1) := by decide +kernel
theorem dX5_findNearest_66 : decode cX5_findNearest 66 = .ok (.iload 5, 2) := by decide +kernel
theorem dX5_findNearest_68 : decode cX5_findNearest 68 = .ok (.aload_n 0, 1) := by decide +kernel
theorem dX5_findNearest_69 : decode cX5_findNearest 69 = .ok (.getfield 26, 3) := by decide +kernel
theorem dX5_findNearest_72 : decode cX5_findNearest 72 = .ok (.iload 6, 2) := by decide +kernel
theorem dX5_findNearest_74 : decode cX5_findNearest 74 = .ok (.iaload, 1) := by decide +kernel
theorem dX5_findNearest_75 : decode cX5_findNearest 75 = .ok (.aload_n 0, 1) := by decide +kernel
theorem dX5_findNearest_76 : decode cX5_findNearest 76 = .ok (.getfield 13, 3) := by decide +kernel
theorem dX5_findNearest_79 : decode cX5_findNearest 79 = .ok (.iload 6, 2) := by decide +kernel
theorem dX5_findNearest_81 : decode cX5_findNearest 81 = .ok (.iaload, 1) := by decide +kernel
theorem dX5_findNearest_82 : decode cX5_findNearest 82 = .ok (.if_icmp .ne 7, 3) := by decide +kernel
theorem dX5_findNearest_85 : decode cX5_findNearest 85 = .ok (.iconst 0, 1) := by decide +kernel
theorem dX5_findNearest_86 : decode cX5_findNearest 86 = .ok (.goto 4, 3) := by decide +kernel
theorem dX5_findNearest_89 : decode cX5_findNearest 89 = .ok (.iconst 1, 1) := by decide +kernel
theorem dX5_findNearest_90 : decode cX5_findNearest 90 = .ok (.iadd, 1) := by decide +kernel
theorem dX5_findNearest_91 : decode cX5_findNearest 91 = .ok (.istore 5, 2) := by decide +kernel
theorem dX5_findNearest_93 : decode cX5_findNearest 93 = .ok (.iinc 6 1, 3) := by decide +kernel
theorem dX5_findNearest_96 : decode cX5_findNearest 96 = .ok (.goto (-62), 3) := by decide +kernel
theorem dX5_findNearest_99 : decode cX5_findNearest 99 = .ok (.iload 5, 2) := by decide +kernel
theorem dX5_findNearest_101 : decode cX5_findNearest 101 = .ok (.iload_n 2, 1) := by decide +kernel
theorem dX5_findNearest_102 : decode cX5_findNearest 102 = .ok (.if_icmp .ne 15, 3) := by decide +kernel
theorem dX5_findNearest_105 : decode cX5_findNearest 105 = .ok (.aload_n 0, 1) := by decide +kernel
theorem dX5_findNearest_106 : decode cX5_findNearest 106 = .ok (.iload_n 1, 1) := by decide +kernel
theorem dX5_findNearest_107 : decode cX5_findNearest 107 = .ok (.invokevirtual 76, 3) := by decide +kernel
theorem dX5_findNearest_110 : decode cX5_findNearest 110 = .ok (.ifCond .ne 7, 3) := by decide +kernel
theorem dX5_findNearest_113 : decode cX5_findNearest 113 = .ok (.iconst 1, 1) := by decide +kernel
theorem dX5_findNearest_114 : decode cX5_findNearest 114 = .ok (.goto 4, 3) := by decide +kernel
theorem dX5_findNearest_117 : decode cX5_findNearest 117 = .ok (.iconst 0, 1) := by decide +kernel
theorem dX5_findNearest_118 : decode cX5_findNearest 118 = .ok (.istore_n 3, 1) := by decide +kernel
theorem dX5_findNearest_119 : decode cX5_findNearest 119 = .ok (.iinc 4 1, 3) := by decide +kernel
theorem dX5_findNearest_122 : decode cX5_findNearest 122 = .ok (.goto (-111), 3) := by decide +kernel
theorem dX5_findNearest_125 : decode cX5_findNearest 125 = .ok (.return_, 1) := by decide +kernel
set_option maxRecDepth 20000 in
theorem ggX5_tableFar_X5_parity : GoodIn wsX5_tableFar wsX5_parity := goodIn_r _ [5, 6, 7, 4, 8] (by decide +kernel) (by decide +kernel)
set_option maxRecDepth 20000 in
theorem gX5_tableFar_X5_parity : GoodIn wsX5_tableFar (va_wsS RX5 50 yX5_parity wsX5_parity) := goodIn_app (goodIn_of _ (by decide +kernel)) ggX5_tableFar_X5_parity
theorem dX5_tableFar_0 : decode cX5_tableFar 0 = .ok (.iconst 0, 1) := by decide +kernel
theorem dX5_tableFar_1 : decode cX5_tableFar 1 = .ok (.istore_n 2, 1) := by decide +kernel
theorem dX5_tableFar_2 : decode cX5_tableFar 2 = .ok (.iconst 0, 1) := by decide +kernel
theorem dX5_tableFar_3 : decode cX5_tableFar 3 = .ok (.istore_n 3, 1) := by decide +kernel
theorem dX5_tableFar_4 : decode cX5_tableFar 4 = .ok (.iload_n 3, 1) := by decide +kernel
theorem dX5_tableFar_5 : decode cX5_tableFar 5 = .ok (.bipush 8, 2) := by decide +kernel
theorem dX5_tableFar_7 : decode cX5_tableFar 7 = .ok (.if_icmp .ge 31, 3) := by decide +kernel
theorem dX5_tableFar_10 : decode cX5_tableFar 10 = .ok (.iload_n 2, 1) := by decide +kernel
theorem dX5_tableFar_11 : decode cX5_tableFar 11 = .ok (.aload_n 0, 1) := by decide +kernel
theorem dX5_tableFar_12 : decode cX5_tableFar 12 = .ok (.getfield 17, 3) := by decide +kernel
theorem dX5_tableFar_15 : decode cX5_tableFar 15 = .ok (.iload_n 3, 1) := by decide +kernel
theorem dX5_tableFar_16 : decode cX5_tableFar 16 = .ok (.iaload, 1) := by decide +kernel
theorem dX5_tableFar_17 : decode cX5_tableFar 17 = .ok (.iload_n 1, 1) := by decide +kernel
theorem dX5_tableFar_18 : decode cX5_tableFar 18 = .ok (.iload_n 3, 1) := by decide +kernel
theorem dX5_tableFar_19 : decode cX5_tableFar 19 = .ok (.invokestatic 50, 3) := by decide +kernel
theorem dX5_tableFar_22 : decode cX5_tableFar 22 = .ok (.if_icmp .ne 7, 3) := by decide +kernel
theorem dX5_tableFar_25 : decode cX5_tableFar 25 = .ok (.iconst 0, 1) := by decide +kernel
theorem dX5_tableFar_26 : decode cX5_tableFar 26 = .ok (.goto 4, 3) := by decide +kernel
theorem dX5_tableFar_29 : decode cX5_tableFar 29 = .ok (.iconst 1, 1) := by decide +kernel
theorem dX5_tableFar_30 : decode cX5_tableFar 30 = .ok (.iadd, 1) := by decide +kernel
theorem dX5_tableFar_31 : decode cX5_tableFar 31 = .ok (.istore_n 2, 1) := by decide +kernel
theorem dX5_tableFar_32 : decode cX5_tableFar 32 = .ok (.iinc 3 1, 3) := by decide +kernel
theorem dX5_tableFar_35 : decode cX5_tableFar 35 = .ok (.goto (-31), 3) := by decide +kernel
theorem dX5_tableFar_38 : decode cX5_tableFar 38 = .ok (.iload_n 2, 1) := by decide +kernel
theorem dX5_tableFar_39 : decode cX5_tableFar 39 = .ok (.ireturn, 1) := by decide +kernel
set_option maxRecDepth 20000 in
theorem ggX5_nearestTable_X5_tableFar : GoodIn wsX5_nearestTable wsX5_tableFar := goodIn_r _ [5, 6, 7, 8, 4, 9, 10, 11, 12, 13, 14, 15, 16, 17, 18, 19, 20, 21, 22, 23] (by decide +kernel) (by decide +kernel)
set_option maxRecDepth 20000 in
theorem gX5_nearestTable_X5_tableFar : GoodIn wsX5_nearestTable (wsV RX5 82 RX5 yX5_tableFar wsX5_tableFar) := goodIn_app (goodIn_of _ (by decide +kernel)) ggX5_nearestTable_X5_tableFar
theorem dX5_nearestTable_0 : decode cX5_nearestTable 0 = .ok (.iconst 0, 1) := by decide +kernel
theorem dX5_nearestTable_1 : decode cX5_nearestTable 1 = .ok (.istore_n 1, 1) := by decide +kernel
theorem dX5_nearestTable_2 : decode cX5_nearestTable 2 = .ok (.iconst 1, 1) := by decide +kernel
theorem dX5_nearestTable_3 : decode cX5_nearestTable 3 = .ok (.istore_n 2, 1) := by decide +kernel
theorem dX5_nearestTable_4 : decode cX5_nearestTable 4 = .ok (.iload_n 2, 1) := by decide +kernel
theorem dX5_nearestTable_5 : decode cX5_nearestTable 5 = .ok (.bipush 8, 2) := by decide +kernel
theorem dX5_nearestTable_7 : decode cX5_nearestTable 7 = .ok (.if_icmp .ge 28, 3) := by decide +kernel
theorem dX5_nearestTable_10 : decode cX5_nearestTable 10 = .ok (.aload_n 0, 1) := by decide +kernel
theorem dX5_nearestTable_11 : decode cX5_nearestTable 11 = .ok (.iload_n 2, 1) := by decide +kernel
theorem dX5_nearestTable_12 : decode cX5_nearestTable 12 = .ok (.invokevirtual 82, 3) := by decide +kernel
theorem dX5_nearestTable_15 : decode cX5_nearestTable 15 = .ok (.aload_n 0, 1) := by decide +kernel
theorem dX5_nearestTable_16 : decode cX5_nearestTable 16 = .ok (.iload_n 1, 1) := by decide +kernel
theorem dX5_nearestTable_17 : decode cX5_nearestTable 17 = .ok (.invokevirtual 82, 3) := by decide +kernel
theorem dX5_nearestTable_20 : decode cX5_nearestTable 20 = .ok (.if_icmp .ge 7, 3) := by decide +kernel
theorem dX5_nearestTable_23 : decode cX5_nearestTable 23 = .ok (.iload_n 2, 1) := by decide +kernel
theorem dX5_nearestTable_24 : decode cX5_nearestTable 24 = .ok (.goto 4, 3) := by decide +kernel
theorem dX5_nearestTable_27 : decode cX5_nearestTable 27 = .ok (.iload_n 1, 1) := by decide +kernel
theorem dX5_nearestTable_28 : decode cX5_nearestTable 28 = .ok (.istore_n 1, 1) := by decide +kernel
theorem dX5_nearestTable_29 : decode cX5_nearestTable 29 = .ok (.iinc 2 1, 3) := by decide +kernel
theorem dX5_nearestTable_32 : decode cX5_nearestTable 32 = .ok (.goto (-28), 3) := by decide +kernel
theorem dX5_nearestTable_35 : decode cX5_nearestTable 35 = .ok (.iload_n 1, 1) := by decide +kernel
theorem dX5_nearestTable_36 : decode cX5_nearestTable 36 = .ok (.ireturn, 1) := by decide +kernel
theorem dX5_netFar_0 : decode cX5_netFar 0 = .ok (.iconst 0, 1) := by decide +kernel
theorem dX5_netFar_1 : decode cX5_netFar 1 = .ok (.istore_n 3, 1) := by decide +kernel
theorem dX5_netFar_2 : decode cX5_netFar 2 = .ok (.iconst 0, 1) := by decide +kernel
theorem dX5_netFar_3 : decode cX5_netFar 3 = .ok (.istore 4, 2) := by decide +kernel
theorem dX5_netFar_5 : decode cX5_netFar 5 = .ok (.iload 4, 2) := by decide +kernel
theorem dX5_netFar_7 : decode cX5_netFar 7 = .ok (.bipush 6, 2) := by decide +kernel
theorem dX5_netFar_9 : decode cX5_netFar 9 = .ok (.if_icmp .ge 91, 3) := by decide +kernel
theorem dX5_netFar_12 : decode cX5_netFar 12 = .ok (.iconst 0, 1) := by decide +kernel
theorem dX5_netFar_13 : decode cX5_netFar 13 = .ok (.istore 5, 2) := by decide +kernel
theorem dX5_netFar_15 : decode cX5_netFar 15 = .ok (.iload 5, 2) := by decide +kernel
theorem dX5_netFar_17 : decode cX5_netFar 17 = .ok (.iload 4, 2) := by decide +kernel
theorem dX5_netFar_19 : decode cX5_netFar 19 = .ok (.if_icmp .ge 75, 3) := by decide +kernel
theorem dX5_netFar_22 : decode cX5_netFar 22 = .ok (.aload_n 0, 1) := by decide +kernel
theorem dX5_netFar_23 : decode cX5_netFar 23 = .ok (.getfield 20, 3) := by decide +kernel
theorem dX5_netFar_26 : decode cX5_netFar 26 = .ok (.iload 4, 2) := by decide +kernel
theorem dX5_netFar_28 : decode cX5_netFar 28 = .ok (.iaload, 1) := by decide +kernel
theorem dX5_netFar_29 : decode cX5_netFar 29 = .ok (.iload 5, 2) := by decide +kernel
theorem dX5_netFar_31 : decode cX5_netFar 31 = .ok (.ishr, 1) := by decide +kernel
theorem dX5_netFar_32 : decode cX5_netFar 32 = .ok (.iconst 1, 1) := by decide +kernel
theorem dX5_netFar_33 : decode cX5_netFar 33 = .ok (.iand, 1) := by decide +kernel
theorem dX5_netFar_34 : decode cX5_netFar 34 = .ok (.iconst 1, 1) := by decide +kernel
theorem dX5_netFar_35 : decode cX5_netFar 35 = .ok (.if_icmp .ne 22, 3) := by decide +kernel
theorem dX5_netFar_38 : decode cX5_netFar 38 = .ok (.iload_n 2, 1) := by decide +kernel
theorem dX5_netFar_39 : decode cX5_netFar 39 = .ok (.iload 4, 2) := by decide +kernel
theorem dX5_netFar_41 : decode cX5_netFar 41 = .ok (.ishr, 1) := by decide +kernel
theorem dX5_netFar_42 : decode cX5_netFar 42 = .ok (.iload_n 2, 1) := by decide +kernel
theorem dX5_netFar_43 : decode cX5_netFar 43 = .ok (.iload 5, 2) := by decide +kernel
theorem dX5_netFar_45 : decode cX5_netFar 45 = .ok (.ishr, 1) := by decide +kernel
theorem dX5_netFar_46 : decode cX5_netFar 46 = .ok (.iand, 1) := by decide +kernel
theorem dX5_netFar_47 : decode cX5_netFar 47 = .ok (.iconst 1, 1) := by decide +kernel
theorem dX5_netFar_48 : decode cX5_netFar 48 = .ok (.iand, 1) := by decide +kernel
theorem dX5_netFar_49 : decode cX5_netFar 49 = .ok (.iconst 1, 1) := by decide +kernel
theorem dX5_netFar_50 : decode cX5_netFar 50 = .ok (.if_icmp .ne 7, 3) := by decide +kernel
theorem dX5_netFar_53 : decode cX5_netFar 53 = .ok (.iconst 1, 1) := by decide +kernel
theorem dX5_netFar_54 : decode cX5_netFar 54 = .ok (.goto 4, 3) := by decide +kernel
theorem dX5_netFar_57 : decode cX5_netFar 57 = .ok (.iconst 0, 1) := by decide +kernel
theorem dX5_netFar_58 : decode cX5_netFar 58 = .ok (.istore 6, 2) := by decide +kernel
theorem dX5_netFar_60 : decode cX5_netFar 60 = .ok (.iload_n 3, 1) := by decide +kernel
theorem dX5_netFar_61 : decode cX5_netFar 61 = .ok (.iload 6, 2) := by decide +kernel
theorem dX5_netFar_63 : decode cX5_netFar 63 = .ok (.ifCond .eq 22, 3) := by decide +kernel
theorem dX5_netFar_66 : decode cX5_netFar 66 = .ok (.iload_n 1, 1) := by decide +kernel
theorem dX5_netFar_67 : decode cX5_netFar 67 = .ok (.iload 4, 2) := by decide +kernel
theorem dX5_netFar_69 : decode cX5_netFar 69 = .ok (.ishr, 1) := by decide +kernel
theorem dX5_netFar_70 : decode cX5_netFar 70 = .ok (.iconst 1, 1) := by decide +kernel
theorem dX5_netFar_71 : decode cX5_netFar 71 = .ok (.iand, 1) := by decide +kernel
theorem dX5_netFar_72 : decode cX5_netFar 72 = .ok (.iload_n 1, 1) := by decide +kernel
theorem dX5_netFar_73 : decode cX5_netFar 73 = .ok (.iload 5, 2) := by decide +kernel
theorem dX5_netFar_75 : decode cX5_netFar 75 = .ok (.ishr, 1) := by decide +kernel
theorem dX5_netFar_76 : decode cX5_netFar 76 = .ok (.iconst 1, 1) := by decide +kernel
theorem dX5_netFar_77 : decode cX5_netFar 77 = .ok (.iand, 1) := by decide +kernel
theorem dX5_netFar_78 : decode cX5_netFar 78 = .ok (.if_icmp .ne 7, 3) := by decide +kernel
theorem dX5_netFar_81 : decode cX5_netFar 81 = .ok (.iconst 1, 1) := by decide +kernel
theorem dX5_netFar_82 : decode cX5_netFar 82 = .ok (.goto 4, 3) := by decide +kernel
theorem dX5_netFar_85 : decode cX5_netFar 85 = .ok (.iconst 0, 1) := by decide +kernel
theorem dX5_netFar_86 : decode cX5_netFar 86 = .ok (.iadd, 1) := by decide +kernel
theorem dX5_netFar_87 : decode cX5_netFar 87 = .ok (.istore_n 3, 1) := by decide +kernel
theorem dX5_netFar_88 : decode cX5_netFar 88 = .ok (.iinc 5 1, 3) := by decide +kernel
theorem dX5_netFar_91 : decode cX5_netFar 91 = .ok (.goto (-76), 3) := by decide +kernel
theorem dX5_netFar_94 : decode cX5_netFar 94 = .ok (.iinc 4 1, 3) := by decide +kernel
theorem dX5_netFar_97 : decode cX5_netFar 97 = .ok (.goto (-92), 3) := by decide +kernel
theorem dX5_netFar_100 : decode cX5_netFar 100 = .ok (.iload_n 3, 1) := by decide +kernel
theorem dX5_netFar_101 : decode cX5_netFar 101 = .ok (.ireturn, 1) := by decide +kernel
set_option maxRecDepth 20000 in
theorem ggX5_nearestNet_X5_netFar : GoodIn wsX5_nearestNet wsX5_netFar := goodIn_r _ [5, 6, 7, 8, 9, 10, 11, 12, 13, 14, 15, 16, 17] (by decide +kernel) (by decide +kernel)
set_option maxRecDepth 20000 in
theorem gX5_nearestNet_X5_netFar : GoodIn wsX5_nearestNet (wsV RX5 85 RX5 yX5_netFar wsX5_netFar) := goodIn_app (goodIn_of _ (by decide +kernel)) ggX5_nearestNet_X5_netFar
theorem dX5_nearestNet_0 : decode cX5_nearestNet 0 = .ok (.iconst 0, 1) := by decide +kernel
theorem dX5_nearestNet_1 : decode cX5_nearestNet 1 = .ok (.istore_n 2, 1) := by decide +kernel
theorem dX5_nearestNet_2 : decode cX5_nearestNet 2 = .ok (.iconst 2, 1) := by decide +kernel
theorem dX5_nearestNet_3 : decode cX5_nearestNet 3 = .ok (.istore_n 3, 1) := by decide +kernel
theorem dX5_nearestNet_4 : decode cX5_nearestNet 4 = .ok (.iload_n 3, 1) := by decide +kernel
theorem dX5_nearestNet_5 : decode cX5_nearestNet 5 = .ok (.bipush 64, 2) := by decide +kernel
theorem dX5_nearestNet_7 : decode cX5_nearestNet 7 = .ok (.if_icmp .ge 30, 3) := by decide +kernel
theorem dX5_nearestNet_10 : decode cX5_nearestNet 10 = .ok (.aload_n 0, 1) := by decide +kernel
theorem dX5_nearestNet_11 : decode cX5_nearestNet 11 = .ok (.iload_n 3, 1) := by decide +kernel
theorem dX5_nearestNet_12 : decode cX5_nearestNet 12 = .ok (.iload_n 1, 1) := by decide +kernel
theorem dX5_nearestNet_13 : decode cX5_nearestNet 13 = .ok (.invokevirtual 85, 3) := by decide +kernel
theorem dX5_nearestNet_16 : decode cX5_nearestNet 16 = .ok (.aload_n 0, 1) := by decide +kernel
theorem dX5_nearestNet_17 : decode cX5_nearestNet 17 = .ok (.iload_n 2, 1) := by decide +kernel
theorem dX5_nearestNet_18 : decode cX5_nearestNet 18 = .ok (.iload_n 1, 1) := by decide +kernel
theorem dX5_nearestNet_19 : decode cX5_nearestNet 19 = .ok (.invokevirtual 85, 3) := by decide +kernel
theorem dX5_nearestNet_22 : decode cX5_nearestNet 22 = .ok (.if_icmp .ge 7, 3) := by decide +kernel
theorem dX5_nearestNet_25 : decode cX5_nearestNet 25 = .ok (.iload_n 3, 1) := by decide +kernel
theorem dX5_nearestNet_26 : decode cX5_nearestNet 26 = .ok (.goto 4, 3) := by decide +kernel
theorem dX5_nearestNet_29 : decode cX5_nearestNet 29 = .ok (.iload_n 2, 1) := by decide +kernel
theorem dX5_nearestNet_30 : decode cX5_nearestNet 30 = .ok (.istore_n 2, 1) := by decide +kernel
theorem dX5_nearestNet_31 : decode cX5_nearestNet 31 = .ok (.iinc 3 2, 3) := by decide +kernel
theorem dX5_nearestNet_34 : decode cX5_nearestNet 34 = .ok (.goto (-30), 3) := by decide +kernel
theorem dX5_nearestNet_37 : decode cX5_nearestNet 37 = .ok (.iload_n 2, 1) := by decide +kernel
theorem dX5_nearestNet_38 : decode cX5_nearestNet 38 = .ok (.ireturn, 1) := by decide +kernel
set_option maxRecDepth 20000 in
theorem ggX5_distanceOf_X5_rowDistance : GoodIn wsX5_distanceOf wsX5_rowDistance := goodIn_r _ [5, 6, 7, 8, 4, 9, 10, 11, 12, 13, 14, 15, 16, 17, 18, 19, 20, 21, 22, 23, 24, 25, 26, 27, 28, 29, 30, 31, 32, 33, 34, 35, 36, 37, 62, 63, 64, 65, 66, 67, 68, 69, 70, 71, 72] (by decide +kernel) (by decide +kernel)
set_option maxRecDepth 20000 in
theorem gX5_distanceOf_X5_rowDistance : GoodIn wsX5_distanceOf (wsV RX5 79 RX5 yX5_rowDistance wsX5_rowDistance) := goodIn_app (goodIn_of _ (by decide +kernel)) ggX5_distanceOf_X5_rowDistance
set_option maxRecDepth 20000 in
theorem ggX5_distanceOf_X5_nearestTable : GoodIn wsX5_distanceOf wsX5_nearestTable := goodIn_r _ [41, 42, 43, 44, 4, 45, 46, 47, 48, 49, 50, 51, 52, 62, 63, 64, 65, 66, 67, 68, 69, 70, 71, 72] (by decide +kernel) (by decide +kernel)
set_option maxRecDepth 20000 in
theorem gX5_distanceOf_X5_nearestTable : GoodIn wsX5_distanceOf (wsV RX5 88 RX5 yX5_nearestTable wsX5_nearestTable) := goodIn_app (goodIn_of _ (by decide +kernel)) ggX5_distanceOf_X5_nearestTable
set_option maxRecDepth 20000 in
theorem ggX5_distanceOf_X5_tableFar : GoodIn wsX5_distanceOf wsX5_tableFar := goodIn_r _ [45, 46, 47, 48, 4, 49, 50, 51, 52, 62, 63, 64, 65, 66, 67, 68, 69, 70, 71, 72] (by decide +kernel) (by decide +kernel)
set_option maxRecDepth 20000 in
theorem gX5_distanceOf_X5_tableFar : GoodIn wsX5_distanceOf (wsV RX5 82 RX5 yX5_tableFar wsX5_tableFar) := goodIn_app (goodIn_of _ (by decide +kernel)) ggX5_distanceOf_X5_tableFar
set_option maxRecDepth 20000 in
theorem ggX5_distanceOf_X5_nearestNet : GoodIn wsX5_distanceOf wsX5_nearestNet := goodIn_r _ [56, 57, 58, 59, 4, 60, 61, 62, 63, 64, 65, 66, 67, 68, 69, 70, 71, 72] (by decide +kernel) (by decide +kernel)
set_option maxRecDepth 20000 in
theorem gX5_distanceOf_X5_nearestNet : GoodIn wsX5_distanceOf (wsV RX5 91 RX5 yX5_nearestNet wsX5_nearestNet) := goodIn_app (goodIn_of _ (by decide +kernel)) ggX5_distanceOf_X5_nearestNet
set_option maxRecDepth 20000 in
theorem ggX5_distanceOf_X5_netFar : GoodIn wsX5_distanceOf wsX5_netFar := goodIn_r _ [60, 61, 62, 63, 64, 65, 66, 67, 68, 69, 70, 71, 72] (by decide +kernel) (by decide +kernel)
set_option maxRecDepth 20000 in
theorem gX5_distanceOf_X5_netFar : GoodIn wsX5_distanceOf (wsV RX5 85 RX5 yX5_netFar wsX5_netFar) := goodIn_app (goodIn_of _ (by decide +kernel)) ggX5_distanceOf_X5_netFar
theorem dX5_distanceOf_0 : decode cX5_distanceOf 0 = .ok (.iload_n 1, 1) := by decide +kernel
theorem dX5_distanceOf_1 : decode cX5_distanceOf 1 = .ok (.iconst 4, 1) := by decide +kernel
theorem dX5_distanceOf_2 : decode cX5_distanceOf 2 = .ok (.if_icmp .ge 11, 3) := by decide +kernel
theorem dX5_distanceOf_5 : decode cX5_distanceOf 5 = .ok (.aload_n 0, 1) := by decide +kernel
theorem dX5_distanceOf_6 : decode cX5_distanceOf 6 = .ok (.iload_n 1, 1) := by decide +kernel
theorem dX5_distanceOf_7 : decode cX5_distanceOf 7 = .ok (.invokevirtual 79, 3) := by decide +kernel
theorem dX5_distanceOf_10 : decode cX5_distanceOf 10 = .ok (.goto 31, 3) := by decide +kernel
theorem dX5_distanceOf_13 : decode cX5_distanceOf 13 = .ok (.iload_n 1, 1) := by decide +kernel
theorem dX5_distanceOf_14 : decode cX5_distanceOf 14 = .ok (.iconst 4, 1) := by decide +kernel
theorem dX5_distanceOf_15 : decode cX5_distanceOf 15 = .ok (.if_icmp .ne 14, 3) := by decide +kernel
theorem dX5_distanceOf_18 : decode cX5_distanceOf 18 = .ok (.aload_n 0, 1) := by decide +kernel
theorem dX5_distanceOf_19 : decode cX5_distanceOf 19 = .ok (.aload_n 0, 1) := by decide +kernel
theorem dX5_distanceOf_20 : decode cX5_distanceOf 20 = .ok (.invokevirtual 88, 3) := by decide +kernel
theorem dX5_distanceOf_23 : decode cX5_distanceOf 23 = .ok (.invokevirtual 82, 3) := by decide +kernel
theorem dX5_distanceOf_26 : decode cX5_distanceOf 26 = .ok (.goto 15, 3) := by decide +kernel
theorem dX5_distanceOf_29 : decode cX5_distanceOf 29 = .ok (.aload_n 0, 1) := by decide +kernel
theorem dX5_distanceOf_30 : decode cX5_distanceOf 30 = .ok (.aload_n 0, 1) := by decide +kernel
theorem dX5_distanceOf_31 : decode cX5_distanceOf 31 = .ok (.bipush 63, 2) := by decide +kernel
theorem dX5_distanceOf_33 : decode cX5_distanceOf 33 = .ok (.invokevirtual 91, 3) := by decide +kernel
theorem dX5_distanceOf_36 : decode cX5_distanceOf 36 = .ok (.bipush 63, 2) := by decide +kernel
theorem dX5_distanceOf_38 : decode cX5_distanceOf 38 = .ok (.invokevirtual 85, 3) := by decide +kernel
theorem dX5_distanceOf_41 : decode cX5_distanceOf 41 = .ok (.ireturn, 1) := by decide +kernel
set_option maxRecDepth 20000 in
theorem ggX5_is_X5_isSubject : GoodIn wsX5_is wsX5_isSubject := goodIn_r _ [4, 5, 6, 3, 7] (by decide +kernel) (by decide +kernel)
set_option maxRecDepth 20000 in
theorem gX5_is_X5_isSubject : GoodIn wsX5_is (va_wsS RX5 94 yX5_isSubject wsX5_isSubject) := goodIn_app (goodIn_of _ (by decide +kernel)) ggX5_is_X5_isSubject
set_option maxRecDepth 20000 in
theorem ggX5_is_X5_distanceOf : GoodIn wsX5_is wsX5_distanceOf := goodIn_r _ [11, 12, 13, 14, 3, 15, 16, 17, 18, 19, 20, 21, 22, 23, 24, 25, 26, 27, 28, 29, 30, 31, 32, 33, 34, 35, 36, 37, 38, 39, 40, 41, 42, 43, 44, 45, 46, 47, 48, 49, 50, 51, 52, 53, 54, 55, 56, 57, 58, 59, 60, 61, 62, 63, 64, 65, 66, 67, 68, 69, 70, 71, 72, 73, 74, 75, 76, 77, 78, 79, 80, 81, 82] (by decide +kernel) (by decide +kernel)
set_option maxRecDepth 20000 in
theorem gX5_is_X5_distanceOf : GoodIn wsX5_is (wsV RX5 97 RX5 yX5_distanceOf wsX5_distanceOf) := goodIn_app (goodIn_of _ (by decide +kernel)) ggX5_is_X5_distanceOf
theorem dX5_is_0 : decode cX5_is 0 = .ok (.iload_n 1, 1) := by decide +kernel
theorem dX5_is_1 : decode cX5_is 1 = .ok (.invokestatic 94, 3) := by decide +kernel
theorem dX5_is_4 : decode cX5_is 4 = .ok (.ifCond .ne 8, 3) := by decide +kernel
theorem dX5_is_7 : decode cX5_is 7 = .ok (.bipush (-2), 2) := by decide +kernel
theorem dX5_is_9 : decode cX5_is 9 = .ok (.goto 16, 3) := by decide +kernel
theorem dX5_is_12 : decode cX5_is 12 = .ok (.aload_n 0, 1) := by decide +kernel
theorem dX5_is_13 : decode cX5_is 13 = .ok (.iload_n 1, 1) := by decide +kernel
theorem dX5_is_14 : decode cX5_is 14 = .ok (.invokevirtual 97, 3) := by decide +kernel
theorem dX5_is_17 : decode cX5_is 17 = .ok (.ifCond .ne 7, 3) := by decide +kernel
theorem dX5_is_20 : decode cX5_is 20 = .ok (.iconst 1, 1) := by decide +kernel
theorem dX5_is_21 : decode cX5_is 21 = .ok (.goto 4, 3) := by decide +kernel
theorem dX5_is_24 : decode cX5_is 24 = .ok (.iconst 0, 1) := by decide +kernel
theorem dX5_is_25 : decode cX5_is 25 = .ok (.ireturn, 1) := by decide +kernel
set_option maxRecDepth 20000 in
theorem ggX5_distance_X5_isSubject : GoodIn wsX5_distance wsX5_isSubject := goodIn_r _ [4, 5, 6, 3, 7] (by decide +kernel) (by decide +kernel)
set_option maxRecDepth 20000 in
theorem gX5_distance_X5_isSubject : GoodIn wsX5_distance (va_wsS RX5 94 yX5_isSubject wsX5_isSubject) := goodIn_app (goodIn_of _ (by decide +kernel)) ggX5_distance_X5_isSubject
set_option maxRecDepth 20000 in
theorem ggX5_distance_X5_distanceOf : GoodIn wsX5_distance wsX5_distanceOf := goodIn_r _ [11, 12, 13, 14, 3, 15, 16, 17, 18, 19, 20, 21, 22, 23, 24, 25, 26, 27, 28, 29, 30, 31, 32, 33, 34, 35, 36, 37, 38, 39, 40, 41, 42, 43, 44, 45, 46, 47, 48, 49, 50, 51, 52, 53, 54, 55, 56, 57, 58, 59, 60, 61, 62, 63, 64, 65, 66, 67, 68, 69, 70, 71, 72, 73, 74, 75, 76, 77, 78, 79, 80, 81, 82] (by decide +kernel) (by decide +kernel)
set_option maxRecDepth 20000 in
theorem gX5_distance_X5_distanceOf : GoodIn wsX5_distance (wsV RX5 97 RX5 yX5_distanceOf wsX5_distanceOf) := goodIn_app (goodIn_of _ (by decide +kernel)) ggX5_distance_X5_distanceOf
theorem dX5_distance_0 : decode cX5_distance 0 = .ok (.iload_n 1, 1) := by decide +kernel
theorem dX5_distance_1 : decode cX5_distance 1 = .ok (.invokestatic 94, 3) := by decide +kernel
theorem dX5_distance_4 : decode cX5_distance 4 = .ok (.ifCond .eq 11, 3) := by decide +kernel
theorem dX5_distance_7 : decode cX5_distance 7 = .ok (.aload_n 0, 1) := by decide +kernel
theorem dX5_distance_8 : decode cX5_distance 8 = .ok (.iload_n 1, 1) := by decide +kernel
theorem dX5_distance_9 : decode cX5_distance 9 = .ok (.invokevirtual 97, 3) := by decide +kernel
theorem dX5_distance_12 : decode cX5_distance 12 = .ok (.goto 5, 3) := by decide +kernel
theorem dX5_distance_15 : decode cX5_distance 15 = .ok (.bipush (-2), 2) := by decide +kernel
theorem dX5_distance_17 : decode cX5_distance 17 = .ok (.ireturn, 1) := by decide +kernel
set_option maxRecDepth 20000 in
theorem ggX5_nearest_X5_isSubject : GoodIn wsX5_nearest wsX5_isSubject := goodIn_r _ [5, 6, 7, 4, 8] (by decide +kernel) (by decide +kernel)
set_option maxRecDepth 20000 in
theorem gX5_nearest_X5_isSubject : GoodIn wsX5_nearest (va_wsS RX5 94 yX5_isSubject wsX5_isSubject) := goodIn_app (goodIn_of _ (by decide +kernel)) ggX5_nearest_X5_isSubject
set_option maxRecDepth 20000 in
theorem ggX5_nearest_X5_isPlace : GoodIn wsX5_nearest wsX5_isPlace := goodIn_r _ [12, 13, 6, 7, 4, 8, 76, 77, 78, 79, 80, 81, 82, 83, 84, 85, 86] (by decide +kernel) (by decide +kernel)
set_option maxRecDepth 20000 in
theorem gX5_nearest_X5_isPlace : GoodIn wsX5_nearest (wsV RX5 36 RX5 yX5_isPlace wsX5_isPlace) := goodIn_app (goodIn_of _ (by decide +kernel)) ggX5_nearest_X5_isPlace
set_option maxRecDepth 20000 in
theorem ggX5_nearest_X5_findNearest : GoodIn wsX5_nearest wsX5_findNearest := goodIn_r _ [17, 13, 1, 18, 19, 20, 21, 4, 22, 23, 24, 25, 26, 27, 28, 29, 30, 31, 32, 33, 34, 35, 36, 37, 38, 39, 40, 41, 42, 43, 44, 45, 46, 47, 48, 49, 50, 51, 76, 77, 78, 79, 80, 81, 82, 83, 84, 85, 86] (by decide +kernel) (by decide +kernel)
set_option maxRecDepth 20000 in
theorem gX5_nearest_X5_findNearest : GoodIn wsX5_nearest (wsV RX5 100 RX5 yX5_findNearest wsX5_findNearest) := goodIn_app (goodIn_of _ (by decide +kernel)) ggX5_nearest_X5_findNearest
set_option maxRecDepth 20000 in
theorem ggX5_nearest_X5_nearestTable : GoodIn wsX5_nearest wsX5_nearestTable := goodIn_r _ [55, 56, 57, 58, 4, 59, 60, 61, 62, 63, 64, 65, 66, 76, 77, 78, 79, 80, 81, 82, 83, 84, 85, 86] (by decide +kernel) (by decide +kernel)
set_option maxRecDepth 20000 in
theorem gX5_nearest_X5_nearestTable : GoodIn wsX5_nearest (wsV RX5 88 RX5 yX5_nearestTable wsX5_nearestTable) := goodIn_app (goodIn_of _ (by decide +kernel)) ggX5_nearest_X5_nearestTable
set_option maxRecDepth 20000 in
theorem ggX5_nearest_X5_nearestNet : GoodIn wsX5_nearest wsX5_nearestNet := goodIn_r _ [70, 71, 72, 73, 4, 74, 75, 76, 77, 78, 79, 80, 81, 82, 83, 84, 85, 86] (by decide +kernel) (by decide +kernel)
set_option maxRecDepth 20000 in
theorem gX5_nearest_X5_nearestNet : GoodIn wsX5_nearest (wsV RX5 91 RX5 yX5_nearestNet wsX5_nearestNet) := goodIn_app (goodIn_of _ (by decide +kernel)) ggX5_nearest_X5_nearestNet
theorem dX5_nearest_0 : decode cX5_nearest 0 = .ok (.iload_n 1, 1) := by decide +kernel
theorem dX5_nearest_1 : decode cX5_nearest 1 = .ok (.invokestatic 94, 3) := by decide +kernel
theorem dX5_nearest_4 : decode cX5_nearest 4 = .ok (.ifCond .eq 23, 3) := by decide +kernel
theorem dX5_nearest_7 : decode cX5_nearest 7 = .ok (.iload_n 1, 1) := by decide +kernel
theorem dX5_nearest_8 : decode cX5_nearest 8 = .ok (.iconst 4, 1) := by decide +kernel
theorem dX5_nearest_9 : decode cX5_nearest 9 = .ok (.if_icmp .ge 14, 3) := by decide +kernel
theorem dX5_nearest_12 : decode cX5_nearest 12 = .ok (.aload_n 0, 1) := by decide +kernel
theorem dX5_nearest_13 : decode cX5_nearest 13 = .ok (.iload_n 2, 1) := by decide +kernel
theorem dX5_nearest_14 : decode cX5_nearest 14 = .ok (.invokevirtual 36, 3) := by decide +kernel
theorem dX5_nearest_17 : decode cX5_nearest 17 = .ok (.ifCond .ne 13, 3) := by decide +kernel
theorem dX5_nearest_20 : decode cX5_nearest 20 = .ok (.goto 7, 3) := by decide +kernel
theorem dX5_nearest_23 : decode cX5_nearest 23 = .ok (.iload_n 2, 1) := by decide +kernel
theorem dX5_nearest_24 : decode cX5_nearest 24 = .ok (.ifCond .eq 6, 3) := by decide +kernel
theorem dX5_nearest_27 : decode cX5_nearest 27 = .ok (.bipush (-2), 2) := by decide +kernel
theorem dX5_nearest_29 : decode cX5_nearest 29 = .ok (.ireturn, 1) := by decide +kernel
theorem dX5_nearest_30 : decode cX5_nearest 30 = .ok (.iload_n 1, 1) := by decide +kernel
theorem dX5_nearest_31 : decode cX5_nearest 31 = .ok (.iconst 4, 1) := by decide +kernel
theorem dX5_nearest_32 : decode cX5_nearest 32 = .ok (.if_icmp .ge 15, 3) := by decide +kernel
theorem dX5_nearest_35 : decode cX5_nearest 35 = .ok (.aload_n 0, 1) := by decide +kernel
theorem dX5_nearest_36 : decode cX5_nearest 36 = .ok (.iload_n 1, 1) := by decide +kernel
theorem dX5_nearest_37 : decode cX5_nearest 37 = .ok (.invokevirtual 100, 3) := by decide +kernel
theorem dX5_nearest_40 : decode cX5_nearest 40 = .ok (.aload_n 0, 1) := by decide +kernel
theorem dX5_nearest_41 : decode cX5_nearest 41 = .ok (.getfield 26, 3) := by decide +kernel
theorem dX5_nearest_44 : decode cX5_nearest 44 = .ok (.iload_n 2, 1) := by decide +kernel
theorem dX5_nearest_45 : decode cX5_nearest 45 = .ok (.iaload, 1) := by decide +kernel
theorem dX5_nearest_46 : decode cX5_nearest 46 = .ok (.ireturn, 1) := by decide +kernel
theorem dX5_nearest_47 : decode cX5_nearest 47 = .ok (.iload_n 1, 1) := by decide +kernel
theorem dX5_nearest_48 : decode cX5_nearest 48 = .ok (.iconst 4, 1) := by decide +kernel
theorem dX5_nearest_49 : decode cX5_nearest 49 = .ok (.if_icmp .ne 10, 3) := by decide +kernel
theorem dX5_nearest_52 : decode cX5_nearest 52 = .ok (.aload_n 0, 1) := by decide +kernel
theorem dX5_nearest_53 : decode cX5_nearest 53 = .ok (.invokevirtual 88, 3) := by decide +kernel
theorem dX5_nearest_56 : decode cX5_nearest 56 = .ok (.goto 9, 3) := by decide +kernel
theorem dX5_nearest_59 : decode cX5_nearest 59 = .ok (.aload_n 0, 1) := by decide +kernel
theorem dX5_nearest_60 : decode cX5_nearest 60 = .ok (.bipush 63, 2) := by decide +kernel
theorem dX5_nearest_62 : decode cX5_nearest 62 = .ok (.invokevirtual 91, 3) := by decide +kernel
theorem dX5_nearest_65 : decode cX5_nearest 65 = .ok (.ireturn, 1) := by decide +kernel
set_option maxRecDepth 20000 in
theorem ggX5_mend_X5_isSubject : GoodIn wsX5_mend wsX5_isSubject := goodIn_r _ [8, 9, 10, 7, 11] (by decide +kernel) (by decide +kernel)
set_option maxRecDepth 20000 in
theorem gX5_mend_X5_isSubject : GoodIn wsX5_mend (va_wsS RX5 94 yX5_isSubject wsX5_isSubject) := goodIn_app (goodIn_of _ (by decide +kernel)) ggX5_mend_X5_isSubject
set_option maxRecDepth 20000 in
theorem ggX5_mend_X5_distanceOf : GoodIn wsX5_mend wsX5_distanceOf := goodIn_r _ [15, 16, 17, 18, 7, 19, 20, 21, 22, 23, 1, 3, 2, 24, 25, 26, 27, 28, 29, 30, 31, 32, 33, 34, 35, 36, 37, 38, 39, 40, 41, 42, 43, 44, 45, 46, 47, 48, 49, 50, 51, 52, 53, 54, 55, 56, 57, 58, 59, 60, 61, 62, 63, 64, 65, 66, 67, 68, 69, 70, 71, 4, 83, 84, 85, 86, 87, 88, 89, 90, 91, 92, 93] (by decide +kernel) (by decide +kernel)
set_option maxRecDepth 20000 in
theorem gX5_mend_X5_distanceOf : GoodIn wsX5_mend (wsV RX5 97 RX5 yX5_distanceOf wsX5_distanceOf) := goodIn_app (goodIn_of _ (by decide +kernel)) ggX5_mend_X5_distanceOf
set_option maxRecDepth 20000 in
theorem ggX5_mend_X5_findNearest : GoodIn wsX5_mend wsX5_findNearest := goodIn_r _ [75, 1, 3, 2, 16, 17, 18, 7, 19, 20, 21, 22, 23, 24, 25, 26, 27, 28, 29, 30, 31, 32, 33, 34, 35, 36, 37, 38, 39, 40, 41, 42, 43, 44, 45, 46, 47, 48, 83, 84, 85, 86, 87, 88, 89, 90, 91, 92, 93] (by decide +kernel) (by decide +kernel)
set_option maxRecDepth 20000 in
theorem gX5_mend_X5_findNearest : GoodIn wsX5_mend (wsV RX5 100 RX5 yX5_findNearest wsX5_findNearest) := goodIn_app (goodIn_of _ (by decide +kernel)) ggX5_mend_X5_findNearest
set_option maxRecDepth 20000 in
theorem ggX5_mend_X5_nearestTable : GoodIn wsX5_mend wsX5_nearestTable := goodIn_r _ [52, 53, 54, 55, 7, 56, 57, 58, 59, 60, 61, 62, 63, 83, 84, 85, 86, 87, 88, 89, 90, 91, 92, 93] (by decide +kernel) (by decide +kernel)
set_option maxRecDepth 20000 in
theorem gX5_mend_X5_nearestTable : GoodIn wsX5_mend (wsV RX5 88 RX5 yX5_nearestTable wsX5_nearestTable) := goodIn_app (goodIn_of _ (by decide +kernel)) ggX5_mend_X5_nearestTable
set_option maxRecDepth 20000 in
theorem ggX5_mend_X5_linear : GoodIn wsX5_mend wsX5_linear := goodIn_r _ [79, 57, 80, 81, 7, 82, 9, 10, 11, 58, 59, 60, 61, 62, 63, 83, 84, 85, 86, 87, 88, 89, 90, 91, 92, 93] (by decide +kernel) (by decide +kernel)
set_option maxRecDepth 20000 in
theorem gX5_mend_X5_linear : GoodIn wsX5_mend (wsV RX5 104 RX5 yX5_linear wsX5_linear) := goodIn_app (goodIn_of _ (by decide +kernel)) ggX5_mend_X5_linear
set_option maxRecDepth 20000 in
theorem ggX5_mend_X5_nearestNet : GoodIn wsX5_mend wsX5_nearestNet := goodIn_r _ [67, 68, 69, 70, 7, 71, 4, 83, 84, 85, 86, 87, 88, 89, 90, 91, 92, 93] (by decide +kernel) (by decide +kernel)
set_option maxRecDepth 20000 in
theorem gX5_mend_X5_nearestNet : GoodIn wsX5_mend (wsV RX5 91 RX5 yX5_nearestNet wsX5_nearestNet) := goodIn_app (goodIn_of _ (by decide +kernel)) ggX5_mend_X5_nearestNet
theorem dX5_mend_0 : decode cX5_mend 0 = .ok (.iload_n 1, 1) := by decide +kernel
theorem dX5_mend_1 : decode cX5_mend 1 = .ok (.invokestatic 94, 3) := by decide +kernel
theorem dX5_mend_4 : decode cX5_mend 4 = .ok (.ifCond .ne 6, 3) := by decide +kernel
theorem dX5_mend_7 : decode cX5_mend 7 = .ok (.bipush (-2), 2) := by decide +kernel
theorem dX5_mend_9 : decode cX5_mend 9 = .ok (.ireturn, 1) := by decide +kernel
theorem dX5_mend_10 : decode cX5_mend 10 = .ok (.aload_n 0, 1) := by decide +kernel
theorem dX5_mend_11 : decode cX5_mend 11 = .ok (.iload_n 1, 1) := by decide +kernel
theorem dX5_mend_12 : decode cX5_mend 12 = .ok (.invokevirtual 97, 3) := by decide +kernel
theorem dX5_mend_15 : decode cX5_mend 15 = .ok (.istore_n 2, 1) := by decide +kernel
theorem dX5_mend_16 : decode cX5_mend 16 = .ok (.iload_n 1, 1) := by decide +kernel
theorem dX5_mend_17 : decode cX5_mend 17 = .ok (.iconst 4, 1) := by decide +kernel
theorem dX5_mend_18 : decode cX5_mend 18 = .ok (.if_icmp .ge 39, 3) := by decide +kernel
theorem dX5_mend_21 : decode cX5_mend 21 = .ok (.aload_n 0, 1) := by decide +kernel
theorem dX5_mend_22 : decode cX5_mend 22 = .ok (.iload_n 1, 1) := by decide +kernel
theorem dX5_mend_23 : decode cX5_mend 23 = .ok (.invokevirtual 100, 3) := by decide +kernel
theorem dX5_mend_26 : decode cX5_mend 26 = .ok (.iconst 0, 1) := by decide +kernel
theorem dX5_mend_27 : decode cX5_mend 27 = .ok (.istore_n 3, 1) := by decide +kernel
theorem dX5_mend_28 : decode cX5_mend 28 = .ok (.iload_n 3, 1) := by decide +kernel
theorem dX5_mend_29 : decode cX5_mend 29 = .ok (.aload_n 0, 1) := by decide +kernel
theorem dX5_mend_30 : decode cX5_mend 30 = .ok (.getfield 7, 3) := by decide +kernel
theorem dX5_mend_33 : decode cX5_mend 33 = .ok (.if_icmp .ge 21, 3) := by decide +kernel
theorem dX5_mend_36 : decode cX5_mend 36 = .ok (.aload_n 0, 1) := by decide +kernel
theorem dX5_mend_37 : decode cX5_mend 37 = .ok (.getfield 13, 3) := by decide +kernel
theorem dX5_mend_40 : decode cX5_mend 40 = .ok (.iload_n 3, 1) := by decide +kernel
theorem dX5_mend_41 : decode cX5_mend 41 = .ok (.aload_n 0, 1) := by decide +kernel
theorem dX5_mend_42 : decode cX5_mend 42 = .ok (.getfield 26, 3) := by decide +kernel
theorem dX5_mend_45 : decode cX5_mend 45 = .ok (.iload_n 3, 1) := by decide +kernel
theorem dX5_mend_46 : decode cX5_mend 46 = .ok (.iaload, 1) := by decide +kernel
theorem dX5_mend_47 : decode cX5_mend 47 = .ok (.iastore, 1) := by decide +kernel
theorem dX5_mend_48 : decode cX5_mend 48 = .ok (.iinc 3 1, 3) := by decide +kernel
theorem dX5_mend_51 : decode cX5_mend 51 = .ok (.goto (-23), 3) := by decide +kernel
theorem dX5_mend_54 : decode cX5_mend 54 = .ok (.goto 79, 3) := by decide +kernel
theorem dX5_mend_57 : decode cX5_mend 57 = .ok (.iload_n 1, 1) := by decide +kernel
theorem dX5_mend_58 : decode cX5_mend 58 = .ok (.iconst 4, 1) := by decide +kernel
theorem dX5_mend_59 : decode cX5_mend 59 = .ok (.if_icmp .ne 15, 3) := by decide +kernel
theorem dX5_mend_62 : decode cX5_mend 62 = .ok (.aload_n 0, 1) := by decide +kernel
theorem dX5_mend_63 : decode cX5_mend 63 = .ok (.aload_n 0, 1) := by decide +kernel
theorem dX5_mend_64 : decode cX5_mend 64 = .ok (.invokevirtual 88, 3) := by decide +kernel
theorem dX5_mend_67 : decode cX5_mend 67 = .ok (.invokevirtual 104, 3) := by decide +kernel
theorem dX5_mend_70 : decode cX5_mend 70 = .ok (.pop, 1) := by decide +kernel
theorem dX5_mend_71 : decode cX5_mend 71 = .ok (.goto 62, 3) := by decide +kernel
theorem dX5_mend_74 : decode cX5_mend 74 = .ok (.aload_n 0, 1) := by decide +kernel
theorem dX5_mend_75 : decode cX5_mend 75 = .ok (.bipush 63, 2) := by decide +kernel
theorem dX5_mend_77 : decode cX5_mend 77 = .ok (.invokevirtual 91, 3) := by decide +kernel
theorem dX5_mend_80 : decode cX5_mend 80 = .ok (.istore_n 3, 1) := by decide +kernel
theorem dX5_mend_81 : decode cX5_mend 81 = .ok (.iconst 0, 1) := by decide +kernel
theorem dX5_mend_82 : decode cX5_mend 82 = .ok (.istore 4, 2) := by decide +kernel
theorem dX5_mend_84 : decode cX5_mend 84 = .ok (.iload 4, 2) := by decide +kernel
theorem dX5_mend_86 : decode cX5_mend 86 = .ok (.bipush 6, 2) := by decide +kernel
theorem dX5_mend_88 : decode cX5_mend 88 = .ok (.if_icmp .ge 45, 3) := by decide +kernel
theorem dX5_mend_91 : decode cX5_mend 91 = .ok (.iload_n 3, 1) := by decide +kernel
theorem dX5_mend_92 : decode cX5_mend 92 = .ok (.iload 4, 2) := by decide +kernel
theorem dX5_mend_94 : decode cX5_mend 94 = .ok (.ishr, 1) := by decide +kernel
theorem dX5_mend_95 : decode cX5_mend 95 = .ok (.iconst 1, 1) := by decide +kernel
theorem dX5_mend_96 : decode cX5_mend 96 = .ok (.iand, 1) := by decide +kernel
theorem dX5_mend_97 : decode cX5_mend 97 = .ok (.iconst 1, 1) := by decide +kernel
theorem dX5_mend_98 : decode cX5_mend 98 = .ok (.if_icmp .ne 7, 3) := by decide +kernel
theorem dX5_mend_101 : decode cX5_mend 101 = .ok (.iload_n 3, 1) := by decide +kernel
theorem dX5_mend_102 : decode cX5_mend 102 = .ok (.goto 9, 3) := by decide +kernel
theorem dX5_mend_105 : decode cX5_mend 105 = .ok (.bipush 63, 2) := by decide +kernel
theorem dX5_mend_107 : decode cX5_mend 107 = .ok (.iload_n 3, 1) := by decide +kernel
theorem dX5_mend_108 : decode cX5_mend 108 = .ok (.iconst (-1), 1) := by decide +kernel
theorem dX5_mend_109 : decode cX5_mend 109 = .ok (.ixor, 1) := by decide +kernel
theorem dX5_mend_110 : decode cX5_mend 110 = .ok (.iand, 1) := by decide +kernel
theorem dX5_mend_111 : decode cX5_mend 111 = .ok (.istore 5, 2) := by decide +kernel
theorem dX5_mend_113 : decode cX5_mend 113 = .ok (.aload_n 0, 1) := by decide +kernel
theorem dX5_mend_114 : decode cX5_mend 114 = .ok (.getfield 20, 3) := by decide +kernel
theorem dX5_mend_117 : decode cX5_mend 117 = .ok (.iload 4, 2) := by decide +kernel
theorem dX5_mend_119 : decode cX5_mend 119 = .ok (.dup2, 1) := by decide +kernel
theorem dX5_mend_120 : decode cX5_mend 120 = .ok (.iaload, 1) := by decide +kernel
theorem dX5_mend_121 : decode cX5_mend 121 = .ok (.iload 5, 2) := by decide +kernel
theorem dX5_mend_123 : decode cX5_mend 123 = .ok (.iconst (-1), 1) := by decide +kernel
theorem dX5_mend_124 : decode cX5_mend 124 = .ok (.ixor, 1) := by decide +kernel
theorem dX5_mend_125 : decode cX5_mend 125 = .ok (.iand, 1) := by decide +kernel
theorem dX5_mend_126 : decode cX5_mend 126 = .ok (.iastore, 1) := by decide +kernel
theorem dX5_mend_127 : decode cX5_mend 127 = .ok (.iinc 4 1, 3) := by decide +kernel
theorem dX5_mend_130 : decode cX5_mend 130 = .ok (.goto (-46), 3) := by decide +kernel
theorem dX5_mend_133 : decode cX5_mend 133 = .ok (.iload_n 2, 1) := by decide +kernel
theorem dX5_mend_134 : decode cX5_mend 134 = .ok (.ireturn, 1) := by decide +kernel
theorem dX5_passesTable_0 : decode cX5_passesTable 0 = .ok (.iload_n 0, 1) := by decide +kernel
theorem dX5_passesTable_1 : decode cX5_passesTable 1 = .ok (.iload_n 1, 1) := by decide +kernel
theorem dX5_passesTable_2 : decode cX5_passesTable 2 = .ok (.iadd, 1) := by decide +kernel
theorem dX5_passesTable_3 : decode cX5_passesTable 3 = .ok (.iload_n 2, 1) := by decide +kernel
theorem dX5_passesTable_4 : decode cX5_passesTable 4 = .ok (.iadd, 1) := by decide +kernel
theorem dX5_passesTable_5 : decode cX5_passesTable 5 = .ok (.iconst 2, 1) := by decide +kernel
theorem dX5_passesTable_6 : decode cX5_passesTable 6 = .ok (.irem, 1) := by decide +kernel
theorem dX5_passesTable_7 : decode cX5_passesTable 7 = .ok (.ifCond .ne 7, 3) := by decide +kernel
theorem dX5_passesTable_10 : decode cX5_passesTable 10 = .ok (.iconst 1, 1) := by decide +kernel
theorem dX5_passesTable_11 : decode cX5_passesTable 11 = .ok (.goto 4, 3) := by decide +kernel
theorem dX5_passesTable_14 : decode cX5_passesTable 14 = .ok (.iconst 0, 1) := by decide +kernel
theorem dX5_passesTable_15 : decode cX5_passesTable 15 = .ok (.ireturn, 1) := by decide +kernel
set_option maxRecDepth 20000 in
theorem ggX5_countRow_X5_fromEven : GoodIn wsX5_countRow wsX5_fromEven := goodIn_r _ [9, 3, 4, 10, 11, 12, 13, 14, 15, 16, 17, 18, 19, 20] (by decide +kernel) (by decide +kernel)
set_option maxRecDepth 20000 in
theorem gX5_countRow_X5_fromEven : GoodIn wsX5_countRow (wsV RX5 67 RX5 yX5_fromEven wsX5_fromEven) := goodIn_app (goodIn_of _ (by decide +kernel)) ggX5_countRow_X5_fromEven
theorem dX5_countRow_0 : decode cX5_countRow 0 = .ok (.aload_n 0, 1) := by decide +kernel
theorem dX5_countRow_1 : decode cX5_countRow 1 = .ok (.lconst 0, 1) := by decide +kernel
theorem dX5_countRow_2 : decode cX5_countRow 2 = .ok (.putfield 107, 3) := by decide +kernel
theorem dX5_countRow_5 : decode cX5_countRow 5 = .ok (.aload_n 0, 1) := by decide +kernel
theorem dX5_countRow_6 : decode cX5_countRow 6 = .ok (.lconst 0, 1) := by decide +kernel
theorem dX5_countRow_7 : decode cX5_countRow 7 = .ok (.putfield 111, 3) := by decide +kernel
theorem dX5_countRow_10 : decode cX5_countRow 10 = .ok (.iload_n 1, 1) := by decide +kernel
theorem dX5_countRow_11 : decode cX5_countRow 11 = .ok (.iconst 2, 1) := by decide +kernel
theorem dX5_countRow_12 : decode cX5_countRow 12 = .ok (.if_icmp .ne 24, 3) := by decide +kernel
theorem dX5_countRow_15 : decode cX5_countRow 15 = .ok (.aload_n 0, 1) := by decide +kernel
theorem dX5_countRow_16 : decode cX5_countRow 16 = .ok (.aload_n 0, 1) := by decide +kernel
theorem dX5_countRow_17 : decode cX5_countRow 17 = .ok (.invokevirtual 67, 3) := by decide +kernel
theorem dX5_countRow_20 : decode cX5_countRow 20 = .ok (.ifCond .ne 7, 3) := by decide +kernel
theorem dX5_countRow_23 : decode cX5_countRow 23 = .ok (.lconst 1, 1) := by decide +kernel
theorem dX5_countRow_24 : decode cX5_countRow 24 = .ok (.goto 4, 3) := by decide +kernel
theorem dX5_countRow_27 : decode cX5_countRow 27 = .ok (.lconst 0, 1) := by decide +kernel
theorem dX5_countRow_28 : decode cX5_countRow 28 = .ok (.putfield 107, 3) := by decide +kernel
theorem dX5_countRow_31 : decode cX5_countRow 31 = .ok (.aload_n 0, 1) := by decide +kernel
theorem dX5_countRow_32 : decode cX5_countRow 32 = .ok (.lconst 1, 1) := by decide +kernel
theorem dX5_countRow_33 : decode cX5_countRow 33 = .ok (.putfield 111, 3) := by decide +kernel
theorem dX5_countRow_36 : decode cX5_countRow 36 = .ok (.iconst 0, 1) := by decide +kernel
theorem dX5_countRow_37 : decode cX5_countRow 37 = .ok (.istore_n 2, 1) := by decide +kernel
theorem dX5_countRow_38 : decode cX5_countRow 38 = .ok (.iload_n 2, 1) := by decide +kernel
theorem dX5_countRow_39 : decode cX5_countRow 39 = .ok (.aload_n 0, 1) := by decide +kernel
theorem dX5_countRow_40 : decode cX5_countRow 40 = .ok (.getfield 7, 3) := by decide +kernel
theorem dX5_countRow_43 : decode cX5_countRow 43 = .ok (.if_icmp .ge 175, 3) := by decide +kernel
theorem dX5_countRow_46 : decode cX5_countRow 46 = .ok (.iload_n 1, 1) := by decide +kernel
theorem dX5_countRow_47 : decode cX5_countRow 47 = .ok (.iconst 1, 1) := by decide +kernel
theorem dX5_countRow_48 : decode cX5_countRow 48 = .ok (.if_icmp .ne 49, 3) := by decide +kernel
theorem dX5_countRow_51 : decode cX5_countRow 51 = .ok (.aload_n 0, 1) := by decide +kernel
theorem dX5_countRow_52 : decode cX5_countRow 52 = .ok (.dup, 1) := by decide +kernel
theorem dX5_countRow_53 : decode cX5_countRow 53 = .ok (.getfield 107, 3) := by decide +kernel
theorem dX5_countRow_56 : decode cX5_countRow 56 = .ok (.aload_n 0, 1) := by decide +kernel
theorem dX5_countRow_57 : decode cX5_countRow 57 = .ok (.getfield 26, 3) := by decide +kernel
theorem dX5_countRow_60 : decode cX5_countRow 60 = .ok (.iload_n 2, 1) := by decide +kernel
theorem dX5_countRow_61 : decode cX5_countRow 61 = .ok (.iaload, 1) := by decide +kernel
theorem dX5_countRow_62 : decode cX5_countRow 62 = .ok (.aload_n 0, 1) := by decide +kernel
theorem dX5_countRow_63 : decode cX5_countRow 63 = .ok (.getfield 26, 3) := by decide +kernel
theorem dX5_countRow_66 : decode cX5_countRow 66 = .ok (.aload_n 0, 1) := by decide +kernel
theorem dX5_countRow_67 : decode cX5_countRow 67 = .ok (.getfield 7, 3) := by decide +kernel
theorem dX5_countRow_70 : decode cX5_countRow 70 = .ok (.iconst 1, 1) := by decide +kernel
theorem dX5_countRow_71 : decode cX5_countRow 71 = .ok (.isub, 1) := by decide +kernel
theorem dX5_countRow_72 : decode cX5_countRow 72 = .ok (.iload_n 2, 1) := by decide +kernel
theorem dX5_countRow_73 : decode cX5_countRow 73 = .ok (.isub, 1) := by decide +kernel
theorem dX5_countRow_74 : decode cX5_countRow 74 = .ok (.iaload, 1) := by decide +kernel
theorem dX5_countRow_75 : decode cX5_countRow 75 = .ok (.if_icmp .ne 7, 3) := by decide +kernel
theorem dX5_countRow_78 : decode cX5_countRow 78 = .ok (.lconst 1, 1) := by decide +kernel
theorem dX5_countRow_79 : decode cX5_countRow 79 = .ok (.goto 4, 3) := by decide +kernel
theorem dX5_countRow_82 : decode cX5_countRow 82 = .ok (.lconst 0, 1) := by decide +kernel
theorem dX5_countRow_83 : decode cX5_countRow 83 = .ok (.ladd, 1) := by decide +kernel
theorem dX5_countRow_84 : decode cX5_countRow 84 = .ok (.putfield 107, 3) := by decide +kernel
theorem dX5_countRow_87 : decode cX5_countRow 87 = .ok (.aload_n 0, 1) := by decide +kernel
theorem dX5_countRow_88 : decode cX5_countRow 88 = .ok (.dup, 1) := by decide +kernel
theorem dX5_countRow_89 : decode cX5_countRow 89 = .ok (.getfield 111, 3) := by decide +kernel
theorem dX5_countRow_92 : decode cX5_countRow 92 = .ok (.lconst 1, 1) := by decide +kernel
theorem dX5_countRow_93 : decode cX5_countRow 93 = .ok (.ladd, 1) := by decide +kernel
theorem dX5_countRow_94 : decode cX5_countRow 94 = .ok (.putfield 111, 3) := by decide +kernel
theorem dX5_countRow_97 : decode cX5_countRow 97 = .ok (.iconst 1, 1) := by decide +kernel
theorem dX5_countRow_98 : decode cX5_countRow 98 = .ok (.istore_n 3, 1) := by decide +kernel
theorem dX5_countRow_99 : decode cX5_countRow 99 = .ok (.iload_n 3, 1) := by decide +kernel
theorem dX5_countRow_100 : decode cX5_countRow 100 = .ok (.aload_n 0, 1) := by decide +kernel
theorem dX5_countRow_101 : decode cX5_countRow 101 = .ok (.getfield 7, 3) := by decide +kernel
theorem dX5_countRow_104 : decode cX5_countRow 104 = .ok (.if_icmp .ge 108, 3) := by decide +kernel
theorem dX5_countRow_107 : decode cX5_countRow 107 = .ok (.iload_n 1, 1) := by decide +kernel
theorem dX5_countRow_108 : decode cX5_countRow 108 = .ok (.ifCond .ne 47, 3) := by decide +kernel
theorem dX5_countRow_111 : decode cX5_countRow 111 = .ok (.iload_n 2, 1) := by decide +kernel
theorem dX5_countRow_112 : decode cX5_countRow 112 = .ok (.iload_n 3, 1) := by decide +kernel
theorem dX5_countRow_113 : decode cX5_countRow 113 = .ok (.if_icmp .ge 42, 3) := by decide +kernel
theorem dX5_countRow_116 : decode cX5_countRow 116 = .ok (.aload_n 0, 1) := by decide +kernel
theorem dX5_countRow_117 : decode cX5_countRow 117 = .ok (.dup, 1) := by decide +kernel
theorem dX5_countRow_118 : decode cX5_countRow 118 = .ok (.getfield 107, 3) := by decide +kernel
theorem dX5_countRow_121 : decode cX5_countRow 121 = .ok (.aload_n 0, 1) := by decide +kernel
theorem dX5_countRow_122 : decode cX5_countRow 122 = .ok (.getfield 26, 3) := by decide +kernel
theorem dX5_countRow_125 : decode cX5_countRow 125 = .ok (.iload_n 2, 1) := by decide +kernel
theorem dX5_countRow_126 : decode cX5_countRow 126 = .ok (.iaload, 1) := by decide +kernel
theorem dX5_countRow_127 : decode cX5_countRow 127 = .ok (.aload_n 0, 1) := by decide +kernel
theorem dX5_countRow_128 : decode cX5_countRow 128 = .ok (.getfield 26, 3) := by decide +kernel
theorem dX5_countRow_131 : decode cX5_countRow 131 = .ok (.iload_n 3, 1) := by decide +kernel
theorem dX5_countRow_132 : decode cX5_countRow 132 = .ok (.iaload, 1) := by decide +kernel
theorem dX5_countRow_133 : decode cX5_countRow 133 = .ok (.if_icmp .gt 7, 3) := by decide +kernel
theorem dX5_countRow_136 : decode cX5_countRow 136 = .ok (.lconst 1, 1) := by decide +kernel
theorem dX5_countRow_137 : decode cX5_countRow 137 = .ok (.goto 4, 3) := by decide +kernel
theorem dX5_countRow_140 : decode cX5_countRow 140 = .ok (.lconst 0, 1) := by decide +kernel
theorem dX5_countRow_141 : decode cX5_countRow 141 = .ok (.ladd, 1) := by decide +kernel
theorem dX5_countRow_142 : decode cX5_countRow 142 = .ok (.putfield 107, 3) := by decide +kernel
theorem dX5_countRow_145 : decode cX5_countRow 145 = .ok (.aload_n 0, 1) := by decide +kernel
theorem dX5_countRow_146 : decode cX5_countRow 146 = .ok (.dup, 1) := by decide +kernel
theorem dX5_countRow_147 : decode cX5_countRow 147 = .ok (.getfield 111, 3) := by decide +kernel
theorem dX5_countRow_150 : decode cX5_countRow 150 = .ok (.lconst 1, 1) := by decide +kernel
theorem dX5_countRow_151 : decode cX5_countRow 151 = .ok (.ladd, 1) := by decide +kernel
theorem dX5_countRow_152 : decode cX5_countRow 152 = .ok (.putfield 111, 3) := by decide +kernel
theorem dX5_countRow_155 : decode cX5_countRow 155 = .ok (.iload_n 1, 1) := by decide +kernel
theorem dX5_countRow_156 : decode cX5_countRow 156 = .ok (.iconst 3, 1) := by decide +kernel
theorem dX5_countRow_157 : decode cX5_countRow 157 = .ok (.if_icmp .ne 49, 3) := by decide +kernel
theorem dX5_countRow_160 : decode cX5_countRow 160 = .ok (.aload_n 0, 1) := by decide +kernel
theorem dX5_countRow_161 : decode cX5_countRow 161 = .ok (.dup, 1) := by decide +kernel
theorem dX5_countRow_162 : decode cX5_countRow 162 = .ok (.getfield 107, 3) := by decide +kernel
theorem dX5_countRow_165 : decode cX5_countRow 165 = .ok (.aload_n 0, 1) := by decide +kernel
theorem dX5_countRow_166 : decode cX5_countRow 166 = .ok (.getfield 26, 3) := by decide +kernel
theorem dX5_countRow_169 : decode cX5_countRow 169 = .ok (.iload_n 2, 1) := by decide +kernel
theorem dX5_countRow_170 : decode cX5_countRow 170 = .ok (.iaload, 1) := by decide +kernel
theorem dX5_countRow_171 : decode cX5_countRow 171 = .ok (.aload_n 0, 1) := by decide +kernel
theorem dX5_countRow_172 : decode cX5_countRow 172 = .ok (.getfield 26, 3) := by decide +kernel
theorem dX5_countRow_175 : decode cX5_countRow 175 = .ok (.iload_n 2, 1) := by decide +kernel
theorem dX5_countRow_176 : decode cX5_countRow 176 = .ok (.iload_n 3, 1) := by decide +kernel
theorem dX5_countRow_177 : decode cX5_countRow 177 = .ok (.iadd, 1) := by decide +kernel
theorem dX5_countRow_178 : decode cX5_countRow 178 = .ok (.aload_n 0, 1) := by decide +kernel
theorem dX5_countRow_179 : decode cX5_countRow 179 = .ok (.getfield 7, 3) := by decide +kernel
theorem dX5_countRow_182 : decode cX5_countRow 182 = .ok (.irem, 1) := by decide +kernel
theorem dX5_countRow_183 : decode cX5_countRow 183 = .ok (.iaload, 1) := by decide +kernel
theorem dX5_countRow_184 : decode cX5_countRow 184 = .ok (.if_icmp .ne 7, 3) := by decide +kernel
theorem dX5_countRow_187 : decode cX5_countRow 187 = .ok (.lconst 1, 1) := by decide +kernel
theorem dX5_countRow_188 : decode cX5_countRow 188 = .ok (.goto 4, 3) := by decide +kernel
theorem dX5_countRow_191 : decode cX5_countRow 191 = .ok (.lconst 0, 1) := by decide +kernel
theorem dX5_countRow_192 : decode cX5_countRow 192 = .ok (.ladd, 1) := by decide +kernel
theorem dX5_countRow_193 : decode cX5_countRow 193 = .ok (.putfield 107, 3) := by decide +kernel
theorem dX5_countRow_196 : decode cX5_countRow 196 = .ok (.aload_n 0, 1) := by decide +kernel
theorem dX5_countRow_197 : decode cX5_countRow 197 = .ok (.dup, 1) := by decide +kernel
theorem dX5_countRow_198 : decode cX5_countRow 198 = .ok (.getfield 111, 3) := by decide +kernel
theorem dX5_countRow_201 : decode cX5_countRow 201 = .ok (.lconst 1, 1) := by decide +kernel
theorem dX5_countRow_202 : decode cX5_countRow 202 = .ok (.ladd, 1) := by decide +kernel
theorem dX5_countRow_203 : decode cX5_countRow 203 = .ok (.putfield 111, 3) := by decide +kernel
theorem dX5_countRow_206 : decode cX5_countRow 206 = .ok (.iinc 3 1, 3) := by decide +kernel
theorem dX5_countRow_209 : decode cX5_countRow 209 = .ok (.goto (-110), 3) := by decide +kernel
theorem dX5_countRow_212 : decode cX5_countRow 212 = .ok (.iinc 2 1, 3) := by decide +kernel
theorem dX5_countRow_215 : decode cX5_countRow 215 = .ok (.goto (-177), 3) := by decide +kernel
theorem dX5_countRow_218 : decode cX5_countRow 218 = .ok (.return_, 1) := by decide +kernel
set_option maxRecDepth 20000 in
theorem ggX5_countTable_X5_passesTable : GoodIn wsX5_countTable wsX5_passesTable := goodIn_r _ [8] (by decide +kernel) (by decide +kernel)
set_option maxRecDepth 20000 in
theorem gX5_countTable_X5_passesTable : GoodIn wsX5_countTable (va_wsS RX5 116 yX5_passesTable wsX5_passesTable) := goodIn_app (goodIn_of _ (by decide +kernel)) ggX5_countTable_X5_passesTable
theorem dX5_countTable_0 : decode cX5_countTable 0 = .ok (.aload_n 0, 1) := by decide +kernel
theorem dX5_countTable_1 : decode cX5_countTable 1 = .ok (.lconst 0, 1) := by decide +kernel
theorem dX5_countTable_2 : decode cX5_countTable 2 = .ok (.putfield 107, 3) := by decide +kernel
theorem dX5_countTable_5 : decode cX5_countTable 5 = .ok (.aload_n 0, 1) := by decide +kernel
theorem dX5_countTable_6 : decode cX5_countTable 6 = .ok (.ldc2_w 114, 3) := by decide +kernel
theorem dX5_countTable_9 : decode cX5_countTable 9 = .ok (.putfield 111, 3) := by decide +kernel
theorem dX5_countTable_12 : decode cX5_countTable 12 = .ok (.iconst 0, 1) := by decide +kernel
theorem dX5_countTable_13 : decode cX5_countTable 13 = .ok (.istore_n 1, 1) := by decide +kernel
theorem dX5_countTable_14 : decode cX5_countTable 14 = .ok (.iload_n 1, 1) := by decide +kernel
theorem dX5_countTable_15 : decode cX5_countTable 15 = .ok (.bipush 8, 2) := by decide +kernel
theorem dX5_countTable_17 : decode cX5_countTable 17 = .ok (.if_icmp .ge 63, 3) := by decide +kernel
theorem dX5_countTable_20 : decode cX5_countTable 20 = .ok (.iconst 0, 1) := by decide +kernel
theorem dX5_countTable_21 : decode cX5_countTable 21 = .ok (.istore_n 2, 1) := by decide +kernel
theorem dX5_countTable_22 : decode cX5_countTable 22 = .ok (.iload_n 2, 1) := by decide +kernel
theorem dX5_countTable_23 : decode cX5_countTable 23 = .ok (.bipush 8, 2) := by decide +kernel
theorem dX5_countTable_25 : decode cX5_countTable 25 = .ok (.if_icmp .ge 49, 3) := by decide +kernel
theorem dX5_countTable_28 : decode cX5_countTable 28 = .ok (.aload_n 0, 1) := by decide +kernel
theorem dX5_countTable_29 : decode cX5_countTable 29 = .ok (.dup, 1) := by decide +kernel
theorem dX5_countTable_30 : decode cX5_countTable 30 = .ok (.getfield 107, 3) := by decide +kernel
theorem dX5_countTable_33 : decode cX5_countTable 33 = .ok (.aload_n 0, 1) := by decide +kernel
theorem dX5_countTable_34 : decode cX5_countTable 34 = .ok (.getfield 17, 3) := by decide +kernel
theorem dX5_countTable_37 : decode cX5_countTable 37 = .ok (.iload_n 1, 1) := by decide +kernel
theorem dX5_countTable_38 : decode cX5_countTable 38 = .ok (.iaload, 1) := by decide +kernel
theorem dX5_countTable_39 : decode cX5_countTable 39 = .ok (.aload_n 0, 1) := by decide +kernel
theorem dX5_countTable_40 : decode cX5_countTable 40 = .ok (.getfield 17, 3) := by decide +kernel
theorem dX5_countTable_43 : decode cX5_countTable 43 = .ok (.iload_n 2, 1) := by decide +kernel
theorem dX5_countTable_44 : decode cX5_countTable 44 = .ok (.iaload, 1) := by decide +kernel
theorem dX5_countTable_45 : decode cX5_countTable 45 = .ok (.aload_n 0, 1) := by decide +kernel
theorem dX5_countTable_46 : decode cX5_countTable 46 = .ok (.getfield 17, 3) := by decide +kernel
theorem dX5_countTable_49 : decode cX5_countTable 49 = .ok (.iload_n 1, 1) := by decide +kernel
theorem dX5_countTable_50 : decode cX5_countTable 50 = .ok (.iload_n 2, 1) := by decide +kernel
theorem dX5_countTable_51 : decode cX5_countTable 51 = .ok (.ixor, 1) := by decide +kernel
theorem dX5_countTable_52 : decode cX5_countTable 52 = .ok (.iaload, 1) := by decide +kernel
theorem dX5_countTable_53 : decode cX5_countTable 53 = .ok (.invokestatic 116, 3) := by decide +kernel
theorem dX5_countTable_56 : decode cX5_countTable 56 = .ok (.ifCond .eq 7, 3) := by decide +kernel
theorem dX5_countTable_59 : decode cX5_countTable 59 = .ok (.lconst 1, 1) := by decide +kernel
theorem dX5_countTable_60 : decode cX5_countTable 60 = .ok (.goto 4, 3) := by decide +kernel
theorem dX5_countTable_63 : decode cX5_countTable 63 = .ok (.lconst 0, 1) := by decide +kernel
theorem dX5_countTable_64 : decode cX5_countTable 64 = .ok (.ladd, 1) := by decide +kernel
theorem dX5_countTable_65 : decode cX5_countTable 65 = .ok (.putfield 107, 3) := by decide +kernel
theorem dX5_countTable_68 : decode cX5_countTable 68 = .ok (.iinc 2 1, 3) := by decide +kernel
theorem dX5_countTable_71 : decode cX5_countTable 71 = .ok (.goto (-49), 3) := by decide +kernel
theorem dX5_countTable_74 : decode cX5_countTable 74 = .ok (.iinc 1 1, 3) := by decide +kernel
theorem dX5_countTable_77 : decode cX5_countTable 77 = .ok (.goto (-63), 3) := by decide +kernel
theorem dX5_countTable_80 : decode cX5_countTable 80 = .ok (.return_, 1) := by decide +kernel
set_option maxRecDepth 20000 in
theorem ggX5_passesNet_X5_nearestNet : GoodIn wsX5_passesNet wsX5_nearestNet := goodIn_r _ [5, 6, 7, 8, 4, 9, 10, 11, 12, 13, 14, 15, 16, 17, 18, 19, 20, 21] (by decide +kernel) (by decide +kernel)
set_option maxRecDepth 20000 in
theorem gX5_passesNet_X5_nearestNet : GoodIn wsX5_passesNet (wsV RX5 91 RX5 yX5_nearestNet wsX5_nearestNet) := goodIn_app (goodIn_of _ (by decide +kernel)) ggX5_passesNet_X5_nearestNet
set_option maxRecDepth 20000 in
theorem ggX5_passesNet_X5_netFar : GoodIn wsX5_passesNet wsX5_netFar := goodIn_r _ [9, 10, 11, 12, 13, 14, 15, 16, 17, 18, 19, 20, 21] (by decide +kernel) (by decide +kernel)
set_option maxRecDepth 20000 in
theorem gX5_passesNet_X5_netFar : GoodIn wsX5_passesNet (wsV RX5 85 RX5 yX5_netFar wsX5_netFar) := goodIn_app (goodIn_of _ (by decide +kernel)) ggX5_passesNet_X5_netFar
theorem dX5_passesNet_0 : decode cX5_passesNet 0 = .ok (.aload_n 0, 1) := by decide +kernel
theorem dX5_passesNet_1 : decode cX5_passesNet 1 = .ok (.aload_n 0, 1) := by decide +kernel
theorem dX5_passesNet_2 : decode cX5_passesNet 2 = .ok (.iload_n 1, 1) := by decide +kernel
theorem dX5_passesNet_3 : decode cX5_passesNet 3 = .ok (.invokevirtual 91, 3) := by decide +kernel
theorem dX5_passesNet_6 : decode cX5_passesNet 6 = .ok (.iload_n 1, 1) := by decide +kernel
theorem dX5_passesNet_7 : decode cX5_passesNet 7 = .ok (.invokevirtual 85, 3) := by decide +kernel
theorem dX5_passesNet_10 : decode cX5_passesNet 10 = .ok (.ifCond .ne 7, 3) := by decide +kernel
theorem dX5_passesNet_13 : decode cX5_passesNet 13 = .ok (.iconst 1, 1) := by decide +kernel
theorem dX5_passesNet_14 : decode cX5_passesNet 14 = .ok (.goto 4, 3) := by decide +kernel
theorem dX5_passesNet_17 : decode cX5_passesNet 17 = .ok (.iconst 0, 1) := by decide +kernel
theorem dX5_passesNet_18 : decode cX5_passesNet 18 = .ok (.ireturn, 1) := by decide +kernel
set_option maxRecDepth 20000 in
theorem ggX5_countNet_X5_ones : GoodIn wsX5_countNet wsX5_ones := goodIn_r _ [7] (by decide +kernel) (by decide +kernel)
set_option maxRecDepth 20000 in
theorem gX5_countNet_X5_ones : GoodIn wsX5_countNet (va_wsS RX5 46 yX5_ones wsX5_ones) := goodIn_app (goodIn_of _ (by decide +kernel)) ggX5_countNet_X5_ones
set_option maxRecDepth 20000 in
theorem ggX5_countNet_X5_passesNet : GoodIn wsX5_countNet wsX5_passesNet := goodIn_r _ [11, 12, 13, 14, 6, 15, 16, 17, 18, 19, 20, 21, 22, 23, 24, 25, 26, 27, 28, 29, 30, 31] (by decide +kernel) (by decide +kernel)
set_option maxRecDepth 20000 in
theorem gX5_countNet_X5_passesNet : GoodIn wsX5_countNet (wsV RX5 119 RX5 yX5_passesNet wsX5_passesNet) := goodIn_app (goodIn_of _ (by decide +kernel)) ggX5_countNet_X5_passesNet
theorem dX5_countNet_0 : decode cX5_countNet 0 = .ok (.aload_n 0, 1) := by decide +kernel
theorem dX5_countNet_1 : decode cX5_countNet 1 = .ok (.lconst 0, 1) := by decide +kernel
theorem dX5_countNet_2 : decode cX5_countNet 2 = .ok (.putfield 107, 3) := by decide +kernel
theorem dX5_countNet_5 : decode cX5_countNet 5 = .ok (.aload_n 0, 1) := by decide +kernel
theorem dX5_countNet_6 : decode cX5_countNet 6 = .ok (.lconst 0, 1) := by decide +kernel
theorem dX5_countNet_7 : decode cX5_countNet 7 = .ok (.putfield 111, 3) := by decide +kernel
theorem dX5_countNet_10 : decode cX5_countNet 10 = .ok (.iconst 0, 1) := by decide +kernel
theorem dX5_countNet_11 : decode cX5_countNet 11 = .ok (.istore_n 1, 1) := by decide +kernel
theorem dX5_countNet_12 : decode cX5_countNet 12 = .ok (.iload_n 1, 1) := by decide +kernel
theorem dX5_countNet_13 : decode cX5_countNet 13 = .ok (.bipush 64, 2) := by decide +kernel
theorem dX5_countNet_15 : decode cX5_countNet 15 = .ok (.if_icmp .ge 52, 3) := by decide +kernel
theorem dX5_countNet_18 : decode cX5_countNet 18 = .ok (.iload_n 1, 1) := by decide +kernel
theorem dX5_countNet_19 : decode cX5_countNet 19 = .ok (.invokestatic 46, 3) := by decide +kernel
theorem dX5_countNet_22 : decode cX5_countNet 22 = .ok (.aload_n 0, 1) := by decide +kernel
theorem dX5_countNet_23 : decode cX5_countNet 23 = .ok (.getfield 23, 3) := by decide +kernel
theorem dX5_countNet_26 : decode cX5_countNet 26 = .ok (.if_icmp .ne 35, 3) := by decide +kernel
theorem dX5_countNet_29 : decode cX5_countNet 29 = .ok (.aload_n 0, 1) := by decide +kernel
theorem dX5_countNet_30 : decode cX5_countNet 30 = .ok (.dup, 1) := by decide +kernel
theorem dX5_countNet_31 : decode cX5_countNet 31 = .ok (.getfield 107, 3) := by decide +kernel
theorem dX5_countNet_34 : decode cX5_countNet 34 = .ok (.aload_n 0, 1) := by decide +kernel
theorem dX5_countNet_35 : decode cX5_countNet 35 = .ok (.iload_n 1, 1) := by decide +kernel
theorem dX5_countNet_36 : decode cX5_countNet 36 = .ok (.invokevirtual 119, 3) := by decide +kernel
theorem dX5_countNet_39 : decode cX5_countNet 39 = .ok (.ifCond .eq 7, 3) := by decide +kernel
theorem dX5_countNet_42 : decode cX5_countNet 42 = .ok (.lconst 1, 1) := by decide +kernel
theorem dX5_countNet_43 : decode cX5_countNet 43 = .ok (.goto 4, 3) := by decide +kernel
theorem dX5_countNet_46 : decode cX5_countNet 46 = .ok (.lconst 0, 1) := by decide +kernel
theorem dX5_countNet_47 : decode cX5_countNet 47 = .ok (.ladd, 1) := by decide +kernel
theorem dX5_countNet_48 : decode cX5_countNet 48 = .ok (.putfield 107, 3) := by decide +kernel
theorem dX5_countNet_51 : decode cX5_countNet 51 = .ok (.aload_n 0, 1) := by decide +kernel
theorem dX5_countNet_52 : decode cX5_countNet 52 = .ok (.dup, 1) := by decide +kernel
theorem dX5_countNet_53 : decode cX5_countNet 53 = .ok (.getfield 111, 3) := by decide +kernel
theorem dX5_countNet_56 : decode cX5_countNet 56 = .ok (.lconst 1, 1) := by decide +kernel
theorem dX5_countNet_57 : decode cX5_countNet 57 = .ok (.ladd, 1) := by decide +kernel
theorem dX5_countNet_58 : decode cX5_countNet 58 = .ok (.putfield 111, 3) := by decide +kernel
theorem dX5_countNet_61 : decode cX5_countNet 61 = .ok (.iinc 1 1, 3) := by decide +kernel
theorem dX5_countNet_64 : decode cX5_countNet 64 = .ok (.goto (-52), 3) := by decide +kernel
theorem dX5_countNet_67 : decode cX5_countNet 67 = .ok (.return_, 1) := by decide +kernel
theorem dX5_reduce_0 : decode cX5_reduce 0 = .ok (.aload_n 0, 1) := by decide +kernel
theorem dX5_reduce_1 : decode cX5_reduce 1 = .ok (.getfield 107, 3) := by decide +kernel
theorem dX5_reduce_4 : decode cX5_reduce 4 = .ok (.lstore_n 1, 1) := by decide +kernel
theorem dX5_reduce_5 : decode cX5_reduce 5 = .ok (.aload_n 0, 1) := by decide +kernel
theorem dX5_reduce_6 : decode cX5_reduce 6 = .ok (.getfield 111, 3) := by decide +kernel
theorem dX5_reduce_9 : decode cX5_reduce 9 = .ok (.lstore_n 3, 1) := by decide +kernel
theorem dX5_reduce_10 : decode cX5_reduce 10 = .ok (.lload_n 3, 1) := by decide +kernel
theorem dX5_reduce_11 : decode cX5_reduce 11 = .ok (.lconst 0, 1) := by decide +kernel
theorem dX5_reduce_12 : decode cX5_reduce 12 = .ok (.lcmp, 1) := by decide +kernel
theorem dX5_reduce_13 : decode cX5_reduce 13 = .ok (.ifCond .eq 16, 3) := by decide +kernel
theorem dX5_reduce_16 : decode cX5_reduce 16 = .ok (.lload_n 1, 1) := by decide +kernel
theorem dX5_reduce_17 : decode cX5_reduce 17 = .ok (.lload_n 3, 1) := by decide +kernel
theorem dX5_reduce_18 : decode cX5_reduce 18 = .ok (.lrem, 1) := by decide +kernel
theorem dX5_reduce_19 : decode cX5_reduce 19 = .ok (.lstore 5, 2) := by decide +kernel
theorem dX5_reduce_21 : decode cX5_reduce 21 = .ok (.lload_n 3, 1) := by decide +kernel
theorem dX5_reduce_22 : decode cX5_reduce 22 = .ok (.lstore_n 1, 1) := by decide +kernel
theorem dX5_reduce_23 : decode cX5_reduce 23 = .ok (.lload 5, 2) := by decide +kernel
theorem dX5_reduce_25 : decode cX5_reduce 25 = .ok (.lstore_n 3, 1) := by decide +kernel
theorem dX5_reduce_26 : decode cX5_reduce 26 = .ok (.goto (-16), 3) := by decide +kernel
theorem dX5_reduce_29 : decode cX5_reduce 29 = .ok (.aload_n 0, 1) := by decide +kernel
theorem dX5_reduce_30 : decode cX5_reduce 30 = .ok (.dup, 1) := by decide +kernel
theorem dX5_reduce_31 : decode cX5_reduce 31 = .ok (.getfield 107, 3) := by decide +kernel
theorem dX5_reduce_34 : decode cX5_reduce 34 = .ok (.lload_n 1, 1) := by decide +kernel
theorem dX5_reduce_35 : decode cX5_reduce 35 = .ok (.ldiv, 1) := by decide +kernel
theorem dX5_reduce_36 : decode cX5_reduce 36 = .ok (.putfield 107, 3) := by decide +kernel
theorem dX5_reduce_39 : decode cX5_reduce 39 = .ok (.aload_n 0, 1) := by decide +kernel
theorem dX5_reduce_40 : decode cX5_reduce 40 = .ok (.dup, 1) := by decide +kernel
theorem dX5_reduce_41 : decode cX5_reduce 41 = .ok (.getfield 111, 3) := by decide +kernel
theorem dX5_reduce_44 : decode cX5_reduce 44 = .ok (.lload_n 1, 1) := by decide +kernel
theorem dX5_reduce_45 : decode cX5_reduce 45 = .ok (.ldiv, 1) := by decide +kernel
theorem dX5_reduce_46 : decode cX5_reduce 46 = .ok (.putfield 111, 3) := by decide +kernel
theorem dX5_reduce_49 : decode cX5_reduce 49 = .ok (.return_, 1) := by decide +kernel
set_option maxRecDepth 20000 in
theorem ggX5_findPass_X5_takeRow : GoodIn wsX5_findPass wsX5_takeRow := goodIn_r _ [5, 6, 7, 8, 53, 54, 55, 56, 57, 58, 59, 60, 61, 62, 63] (by decide +kernel) (by decide +kernel)
set_option maxRecDepth 20000 in
theorem gX5_findPass_X5_takeRow : GoodIn wsX5_findPass (wsV RX5 73 RX5 yX5_takeRow wsX5_takeRow) := goodIn_app (goodIn_of _ (by decide +kernel)) ggX5_findPass_X5_takeRow
set_option maxRecDepth 20000 in
theorem ggX5_findPass_X5_countRow : GoodIn wsX5_findPass wsX5_countRow := goodIn_r _ [12, 13, 14, 6, 7, 15, 16, 17, 4, 18, 53, 54, 55, 56, 57, 58, 59, 60, 61, 62, 63] (by decide +kernel) (by decide +kernel)
set_option maxRecDepth 20000 in
theorem gX5_findPass_X5_countRow : GoodIn wsX5_findPass (wsV RX5 122 RX5 yX5_countRow wsX5_countRow) := goodIn_app (goodIn_of _ (by decide +kernel)) ggX5_findPass_X5_countRow
set_option maxRecDepth 20000 in
theorem ggX5_findPass_X5_countTable : GoodIn wsX5_findPass wsX5_countTable := goodIn_r _ [22, 13, 23, 14, 24, 25, 26, 4, 27, 53, 54, 55, 56, 57, 58, 59, 60, 61, 62, 63] (by decide +kernel) (by decide +kernel)
set_option maxRecDepth 20000 in
theorem gX5_findPass_X5_countTable : GoodIn wsX5_findPass (wsV RX5 125 RX5 yX5_countTable wsX5_countTable) := goodIn_app (goodIn_of _ (by decide +kernel)) ggX5_findPass_X5_countTable
set_option maxRecDepth 20000 in
theorem ggX5_findPass_X5_countNet : GoodIn wsX5_findPass wsX5_countNet := goodIn_r _ [31, 13, 14, 32, 33, 34, 4, 35, 36, 37, 38, 39, 40, 41, 42, 43, 44, 45, 46, 47, 48, 53, 54, 55, 56, 57, 58, 59, 60, 61, 62, 63] (by decide +kernel) (by decide +kernel)
set_option maxRecDepth 20000 in
theorem gX5_findPass_X5_countNet : GoodIn wsX5_findPass (wsV RX5 128 RX5 yX5_countNet wsX5_countNet) := goodIn_app (goodIn_of _ (by decide +kernel)) ggX5_findPass_X5_countNet
set_option maxRecDepth 20000 in
theorem ggX5_findPass_X5_reduce : GoodIn wsX5_findPass wsX5_reduce := goodIn_r _ [52, 13, 14, 53, 54, 55, 56, 57, 58, 59, 60, 61, 62, 63] (by decide +kernel) (by decide +kernel)
set_option maxRecDepth 20000 in
theorem gX5_findPass_X5_reduce : GoodIn wsX5_findPass (wsV RX5 131 RX5 yX5_reduce wsX5_reduce) := goodIn_app (goodIn_of _ (by decide +kernel)) ggX5_findPass_X5_reduce
theorem dX5_findPass_0 : decode cX5_findPass 0 = .ok (.iload_n 1, 1) := by decide +kernel
theorem dX5_findPass_1 : decode cX5_findPass 1 = .ok (.iconst 4, 1) := by decide +kernel
theorem dX5_findPass_2 : decode cX5_findPass 2 = .ok (.if_icmp .ge 15, 3) := by decide +kernel
theorem dX5_findPass_5 : decode cX5_findPass 5 = .ok (.aload_n 0, 1) := by decide +kernel
theorem dX5_findPass_6 : decode cX5_findPass 6 = .ok (.invokevirtual 73, 3) := by decide +kernel
theorem dX5_findPass_9 : decode cX5_findPass 9 = .ok (.aload_n 0, 1) := by decide +kernel
theorem dX5_findPass_10 : decode cX5_findPass 10 = .ok (.iload_n 1, 1) := by decide +kernel
theorem dX5_findPass_11 : decode cX5_findPass 11 = .ok (.invokevirtual 122, 3) := by decide +kernel
theorem dX5_findPass_14 : decode cX5_findPass 14 = .ok (.goto 19, 3) := by decide +kernel
theorem dX5_findPass_17 : decode cX5_findPass 17 = .ok (.iload_n 1, 1) := by decide +kernel
theorem dX5_findPass_18 : decode cX5_findPass 18 = .ok (.iconst 4, 1) := by decide +kernel
theorem dX5_findPass_19 : decode cX5_findPass 19 = .ok (.if_icmp .ne 10, 3) := by decide +kernel
theorem dX5_findPass_22 : decode cX5_findPass 22 = .ok (.aload_n 0, 1) := by decide +kernel
theorem dX5_findPass_23 : decode cX5_findPass 23 = .ok (.invokevirtual 125, 3) := by decide +kernel
theorem dX5_findPass_26 : decode cX5_findPass 26 = .ok (.goto 7, 3) := by decide +kernel
theorem dX5_findPass_29 : decode cX5_findPass 29 = .ok (.aload_n 0, 1) := by decide +kernel
theorem dX5_findPass_30 : decode cX5_findPass 30 = .ok (.invokevirtual 128, 3) := by decide +kernel
theorem dX5_findPass_33 : decode cX5_findPass 33 = .ok (.aload_n 0, 1) := by decide +kernel
theorem dX5_findPass_34 : decode cX5_findPass 34 = .ok (.invokevirtual 131, 3) := by decide +kernel
theorem dX5_findPass_37 : decode cX5_findPass 37 = .ok (.return_, 1) := by decide +kernel
set_option maxRecDepth 20000 in
theorem ggX5_pass_X5_isSubject : GoodIn wsX5_pass wsX5_isSubject := goodIn_r _ [7, 8, 9, 6, 10] (by decide +kernel) (by decide +kernel)
set_option maxRecDepth 20000 in
theorem gX5_pass_X5_isSubject : GoodIn wsX5_pass (va_wsS RX5 94 yX5_isSubject wsX5_isSubject) := goodIn_app (goodIn_of _ (by decide +kernel)) ggX5_pass_X5_isSubject
set_option maxRecDepth 20000 in
theorem ggX5_pass_X5_isBit : GoodIn wsX5_pass wsX5_isBit := goodIn_r _ [13, 8, 9, 6, 10] (by decide +kernel) (by decide +kernel)
set_option maxRecDepth 20000 in
theorem gX5_pass_X5_isBit : GoodIn wsX5_pass (va_wsS RX5 43 yX5_isBit wsX5_isBit) := goodIn_app (goodIn_of _ (by decide +kernel)) ggX5_pass_X5_isBit
set_option maxRecDepth 20000 in
theorem ggX5_pass_X5_findPass : GoodIn wsX5_pass wsX5_findPass := goodIn_r _ [17, 18, 19, 20, 6, 21, 22, 23, 24, 25, 26, 27, 28, 2, 3, 29, 30, 31, 32, 33, 34, 35, 36, 37, 38, 39, 40, 41, 42, 43, 44, 45, 46, 47, 48, 49, 50, 51, 52, 53, 54, 55, 56, 57, 58, 59, 60, 61, 62, 63, 64, 65, 66, 67, 68, 69, 70, 71, 72, 73, 74, 75, 76, 77] (by decide +kernel) (by decide +kernel)
set_option maxRecDepth 20000 in
theorem gX5_pass_X5_findPass : GoodIn wsX5_pass (wsV RX5 136 RX5 yX5_findPass wsX5_findPass) := goodIn_app (goodIn_of _ (by decide +kernel)) ggX5_pass_X5_findPass
theorem dX5_pass_0 : decode cX5_pass 0 = .ok (.iload_n 1, 1) := by decide +kernel
theorem dX5_pass_1 : decode cX5_pass 1 = .ok (.invokestatic 94, 3) := by decide +kernel
theorem dX5_pass_4 : decode cX5_pass 4 = .ok (.ifCond .eq 10, 3) := by decide +kernel
theorem dX5_pass_7 : decode cX5_pass 7 = .ok (.iload_n 2, 1) := by decide +kernel
theorem dX5_pass_8 : decode cX5_pass 8 = .ok (.invokestatic 43, 3) := by decide +kernel
theorem dX5_pass_11 : decode cX5_pass 11 = .ok (.ifCond .ne 7, 3) := by decide +kernel
theorem dX5_pass_14 : decode cX5_pass 14 = .ok (.ldc2_w 134, 3) := by decide +kernel
theorem dX5_pass_17 : decode cX5_pass 17 = .ok (.lreturn, 1) := by decide +kernel
theorem dX5_pass_18 : decode cX5_pass 18 = .ok (.aload_n 0, 1) := by decide +kernel
theorem dX5_pass_19 : decode cX5_pass 19 = .ok (.iload_n 1, 1) := by decide +kernel
theorem dX5_pass_20 : decode cX5_pass 20 = .ok (.invokevirtual 136, 3) := by decide +kernel
theorem dX5_pass_23 : decode cX5_pass 23 = .ok (.iload_n 2, 1) := by decide +kernel
theorem dX5_pass_24 : decode cX5_pass 24 = .ok (.ifCond .ne 10, 3) := by decide +kernel
theorem dX5_pass_27 : decode cX5_pass 27 = .ok (.aload_n 0, 1) := by decide +kernel
theorem dX5_pass_28 : decode cX5_pass 28 = .ok (.getfield 107, 3) := by decide +kernel
theorem dX5_pass_31 : decode cX5_pass 31 = .ok (.goto 7, 3) := by decide +kernel
theorem dX5_pass_34 : decode cX5_pass 34 = .ok (.aload_n 0, 1) := by decide +kernel
theorem dX5_pass_35 : decode cX5_pass 35 = .ok (.getfield 111, 3) := by decide +kernel
theorem dX5_pass_38 : decode cX5_pass 38 = .ok (.lreturn, 1) := by decide +kernel
set_option maxRecDepth 20000 in
theorem ggX5_repeats_X5_isSubject : GoodIn wsX5_repeats wsX5_isSubject := goodIn_r _ [6, 7, 8, 5, 9] (by decide +kernel) (by decide +kernel)
set_option maxRecDepth 20000 in
theorem gX5_repeats_X5_isSubject : GoodIn wsX5_repeats (va_wsS RX5 94 yX5_isSubject wsX5_isSubject) := goodIn_app (goodIn_of _ (by decide +kernel)) ggX5_repeats_X5_isSubject
set_option maxRecDepth 20000 in
theorem ggX5_repeats_X5_in : GoodIn wsX5_repeats wsX5_in := goodIn_r _ [9] (by decide +kernel) (by decide +kernel)
set_option maxRecDepth 20000 in
theorem gX5_repeats_X5_in : GoodIn wsX5_repeats (va_wsS RX5 32 yX5_in wsX5_in) := goodIn_app (goodIn_of _ (by decide +kernel)) ggX5_repeats_X5_in
set_option maxRecDepth 20000 in
theorem ggX5_repeats_X5_findPass : GoodIn wsX5_repeats wsX5_findPass := goodIn_r _ [13, 14, 15, 16, 5, 17, 18, 19, 20, 21, 22, 23, 24, 1, 2, 25, 26, 27, 28, 29, 30, 31, 32, 33, 34, 35, 36, 37, 38, 39, 40, 41, 42, 43, 44, 45, 46, 47, 48, 49, 50, 51, 52, 53, 54, 55, 56, 57, 58, 59, 60, 61, 62, 63, 64, 65, 66, 67, 68, 69, 70, 71, 72, 73] (by decide +kernel) (by decide +kernel)
set_option maxRecDepth 20000 in
theorem gX5_repeats_X5_findPass : GoodIn wsX5_repeats (wsV RX5 136 RX5 yX5_findPass wsX5_findPass) := goodIn_app (goodIn_of _ (by decide +kernel)) ggX5_repeats_X5_findPass
theorem dX5_repeats_0 : decode cX5_repeats 0 = .ok (.iload_n 1, 1) := by decide +kernel
theorem dX5_repeats_1 : decode cX5_repeats 1 = .ok (.invokestatic 94, 3) := by decide +kernel
theorem dX5_repeats_4 : decode cX5_repeats 4 = .ok (.ifCond .eq 22, 3) := by decide +kernel
theorem dX5_repeats_7 : decode cX5_repeats 7 = .ok (.iload_n 3, 1) := by decide +kernel
theorem dX5_repeats_8 : decode cX5_repeats 8 = .ok (.iconst 1, 1) := by decide +kernel
theorem dX5_repeats_9 : decode cX5_repeats 9 = .ok (.bipush 100, 2) := by decide +kernel
theorem dX5_repeats_11 : decode cX5_repeats 11 = .ok (.invokestatic 32, 3) := by decide +kernel
theorem dX5_repeats_14 : decode cX5_repeats 14 = .ok (.ifCond .eq 12, 3) := by decide +kernel
theorem dX5_repeats_17 : decode cX5_repeats 17 = .ok (.iload_n 2, 1) := by decide +kernel
theorem dX5_repeats_18 : decode cX5_repeats 18 = .ok (.iconst 1, 1) := by decide +kernel
theorem dX5_repeats_19 : decode cX5_repeats 19 = .ok (.iload_n 3, 1) := by decide +kernel
theorem dX5_repeats_20 : decode cX5_repeats 20 = .ok (.invokestatic 32, 3) := by decide +kernel
theorem dX5_repeats_23 : decode cX5_repeats 23 = .ok (.ifCond .ne 6, 3) := by decide +kernel
theorem dX5_repeats_26 : decode cX5_repeats 26 = .ok (.bipush (-2), 2) := by decide +kernel
theorem dX5_repeats_28 : decode cX5_repeats 28 = .ok (.ireturn, 1) := by decide +kernel
theorem dX5_repeats_29 : decode cX5_repeats 29 = .ok (.aload_n 0, 1) := by decide +kernel
theorem dX5_repeats_30 : decode cX5_repeats 30 = .ok (.iload_n 1, 1) := by decide +kernel
theorem dX5_repeats_31 : decode cX5_repeats 31 = .ok (.invokevirtual 136, 3) := by decide +kernel
theorem dX5_repeats_34 : decode cX5_repeats 34 = .ok (.lconst 1, 1) := by decide +kernel
theorem dX5_repeats_35 : decode cX5_repeats 35 = .ok (.lstore 4, 2) := by decide +kernel
theorem dX5_repeats_37 : decode cX5_repeats 37 = .ok (.lconst 1, 1) := by decide +kernel
theorem dX5_repeats_38 : decode cX5_repeats 38 = .ok (.lstore 6, 2) := by decide +kernel
theorem dX5_repeats_40 : decode cX5_repeats 40 = .ok (.iconst 1, 1) := by decide +kernel
theorem dX5_repeats_41 : decode cX5_repeats 41 = .ok (.istore 8, 2) := by decide +kernel
theorem dX5_repeats_43 : decode cX5_repeats 43 = .ok (.iload 8, 2) := by decide +kernel
theorem dX5_repeats_45 : decode cX5_repeats 45 = .ok (.bipush 9, 2) := by decide +kernel
theorem dX5_repeats_47 : decode cX5_repeats 47 = .ok (.if_icmp .gt 47, 3) := by decide +kernel
theorem dX5_repeats_50 : decode cX5_repeats 50 = .ok (.lload 4, 2) := by decide +kernel
theorem dX5_repeats_52 : decode cX5_repeats 52 = .ok (.aload_n 0, 1) := by decide +kernel
theorem dX5_repeats_53 : decode cX5_repeats 53 = .ok (.getfield 107, 3) := by decide +kernel
theorem dX5_repeats_56 : decode cX5_repeats 56 = .ok (.lmul, 1) := by decide +kernel
theorem dX5_repeats_57 : decode cX5_repeats 57 = .ok (.lstore 4, 2) := by decide +kernel
theorem dX5_repeats_59 : decode cX5_repeats 59 = .ok (.lload 6, 2) := by decide +kernel
theorem dX5_repeats_61 : decode cX5_repeats 61 = .ok (.aload_n 0, 1) := by decide +kernel
theorem dX5_repeats_62 : decode cX5_repeats 62 = .ok (.getfield 111, 3) := by decide +kernel
theorem dX5_repeats_65 : decode cX5_repeats 65 = .ok (.lmul, 1) := by decide +kernel
theorem dX5_repeats_66 : decode cX5_repeats 66 = .ok (.lstore 6, 2) := by decide +kernel
theorem dX5_repeats_68 : decode cX5_repeats 68 = .ok (.iload_n 3, 1) := by decide +kernel
theorem dX5_repeats_69 : decode cX5_repeats 69 = .ok (.i2l, 1) := by decide +kernel
theorem dX5_repeats_70 : decode cX5_repeats 70 = .ok (.lload 6, 2) := by decide +kernel
theorem dX5_repeats_72 : decode cX5_repeats 72 = .ok (.lload 4, 2) := by decide +kernel
theorem dX5_repeats_74 : decode cX5_repeats 74 = .ok (.lsub, 1) := by decide +kernel
theorem dX5_repeats_75 : decode cX5_repeats 75 = .ok (.lmul, 1) := by decide +kernel
theorem dX5_repeats_76 : decode cX5_repeats 76 = .ok (.iload_n 2, 1) := by decide +kernel
theorem dX5_repeats_77 : decode cX5_repeats 77 = .ok (.i2l, 1) := by decide +kernel
theorem dX5_repeats_78 : decode cX5_repeats 78 = .ok (.lload 6, 2) := by decide +kernel
theorem dX5_repeats_80 : decode cX5_repeats 80 = .ok (.lmul, 1) := by decide +kernel
theorem dX5_repeats_81 : decode cX5_repeats 81 = .ok (.lcmp, 1) := by decide +kernel
theorem dX5_repeats_82 : decode cX5_repeats 82 = .ok (.ifCond .lt 6, 3) := by decide +kernel
theorem dX5_repeats_85 : decode cX5_repeats 85 = .ok (.iload 8, 2) := by decide +kernel
theorem dX5_repeats_87 : decode cX5_repeats 87 = .ok (.ireturn, 1) := by decide +kernel
theorem dX5_repeats_88 : decode cX5_repeats 88 = .ok (.iinc 8 1, 3) := by decide +kernel
theorem dX5_repeats_91 : decode cX5_repeats 91 = .ok (.goto (-48), 3) := by decide +kernel
theorem dX5_repeats_94 : decode cX5_repeats 94 = .ok (.iconst (-1), 1) := by decide +kernel
theorem dX5_repeats_95 : decode cX5_repeats 95 = .ok (.ireturn, 1) := by decide +kernel
set_option maxRecDepth 20000 in
theorem ggX5_findWorst_X5_fromKind : GoodIn wsX5_findWorst wsX5_fromKind := goodIn_r _ [11, 12, 13, 14, 10, 15, 1, 16, 2, 17, 18, 19, 20, 21, 22, 23, 24, 25, 26, 27, 28, 29, 30, 31, 32, 37, 38, 39, 40, 41, 42, 43, 44, 45, 46, 47] (by decide +kernel) (by decide +kernel)
set_option maxRecDepth 20000 in
theorem gX5_findWorst_X5_fromKind : GoodIn wsX5_findWorst (wsV RX5 76 RX5 yX5_fromKind wsX5_fromKind) := goodIn_app (goodIn_of _ (by decide +kernel)) ggX5_findWorst_X5_fromKind
set_option maxRecDepth 20000 in
theorem ggX5_findWorst_X5_countRow : GoodIn wsX5_findWorst wsX5_countRow := goodIn_r _ [36, 3, 6, 1, 2, 21, 22, 23, 10, 24, 37, 38, 39, 40, 41, 42, 43, 44, 45, 46, 47] (by decide +kernel) (by decide +kernel)
set_option maxRecDepth 20000 in
theorem gX5_findWorst_X5_countRow : GoodIn wsX5_findWorst (wsV RX5 122 RX5 yX5_countRow wsX5_countRow) := goodIn_app (goodIn_of _ (by decide +kernel)) ggX5_findWorst_X5_countRow
theorem dX5_findWorst_0 : decode cX5_findWorst 0 = .ok (.iconst (-1), 1) := by decide +kernel
theorem dX5_findWorst_1 : decode cX5_findWorst 1 = .ok (.istore_n 3, 1) := by decide +kernel
theorem dX5_findWorst_2 : decode cX5_findWorst 2 = .ok (.iconst 0, 1) := by decide +kernel
theorem dX5_findWorst_3 : decode cX5_findWorst 3 = .ok (.istore 4, 2) := by decide +kernel
theorem dX5_findWorst_5 : decode cX5_findWorst 5 = .ok (.iload 4, 2) := by decide +kernel
theorem dX5_findWorst_7 : decode cX5_findWorst 7 = .ok (.iconst 1, 1) := by decide +kernel
theorem dX5_findWorst_8 : decode cX5_findWorst 8 = .ok (.aload_n 0, 1) := by decide +kernel
theorem dX5_findWorst_9 : decode cX5_findWorst 9 = .ok (.getfield 7, 3) := by decide +kernel
theorem dX5_findWorst_12 : decode cX5_findWorst 12 = .ok (.ishl, 1) := by decide +kernel
theorem dX5_findWorst_13 : decode cX5_findWorst 13 = .ok (.if_icmp .ge 108, 3) := by decide +kernel
theorem dX5_findWorst_16 : decode cX5_findWorst 16 = .ok (.iconst 0, 1) := by decide +kernel
theorem dX5_findWorst_17 : decode cX5_findWorst 17 = .ok (.istore 5, 2) := by decide +kernel
theorem dX5_findWorst_19 : decode cX5_findWorst 19 = .ok (.iload 5, 2) := by decide +kernel
theorem dX5_findWorst_21 : decode cX5_findWorst 21 = .ok (.aload_n 0, 1) := by decide +kernel
theorem dX5_findWorst_22 : decode cX5_findWorst 22 = .ok (.getfield 7, 3) := by decide +kernel
theorem dX5_findWorst_25 : decode cX5_findWorst 25 = .ok (.if_icmp .ge 30, 3) := by decide +kernel
theorem dX5_findWorst_28 : decode cX5_findWorst 28 = .ok (.aload_n 0, 1) := by decide +kernel
theorem dX5_findWorst_29 : decode cX5_findWorst 29 = .ok (.getfield 26, 3) := by decide +kernel
theorem dX5_findWorst_32 : decode cX5_findWorst 32 = .ok (.iload 5, 2) := by decide +kernel
theorem dX5_findWorst_34 : decode cX5_findWorst 34 = .ok (.iload 4, 2) := by decide +kernel
theorem dX5_findWorst_36 : decode cX5_findWorst 36 = .ok (.aload_n 0, 1) := by decide +kernel
theorem dX5_findWorst_37 : decode cX5_findWorst 37 = .ok (.getfield 7, 3) := by decide +kernel
theorem dX5_findWorst_40 : decode cX5_findWorst 40 = .ok (.iconst 1, 1) := by decide +kernel
theorem dX5_findWorst_41 : decode cX5_findWorst 41 = .ok (.isub, 1) := by decide +kernel
theorem dX5_findWorst_42 : decode cX5_findWorst 42 = .ok (.iload 5, 2) := by decide +kernel
theorem dX5_findWorst_44 : decode cX5_findWorst 44 = .ok (.isub, 1) := by decide +kernel
theorem dX5_findWorst_45 : decode cX5_findWorst 45 = .ok (.ishr, 1) := by decide +kernel
theorem dX5_findWorst_46 : decode cX5_findWorst 46 = .ok (.iconst 1, 1) := by decide +kernel
theorem dX5_findWorst_47 : decode cX5_findWorst 47 = .ok (.iand, 1) := by decide +kernel
theorem dX5_findWorst_48 : decode cX5_findWorst 48 = .ok (.iastore, 1) := by decide +kernel
theorem dX5_findWorst_49 : decode cX5_findWorst 49 = .ok (.iinc 5 1, 3) := by decide +kernel
theorem dX5_findWorst_52 : decode cX5_findWorst 52 = .ok (.goto (-33), 3) := by decide +kernel
theorem dX5_findWorst_55 : decode cX5_findWorst 55 = .ok (.aload_n 0, 1) := by decide +kernel
theorem dX5_findWorst_56 : decode cX5_findWorst 56 = .ok (.iload_n 1, 1) := by decide +kernel
theorem dX5_findWorst_57 : decode cX5_findWorst 57 = .ok (.invokevirtual 76, 3) := by decide +kernel
theorem dX5_findWorst_60 : decode cX5_findWorst 60 = .ok (.iload_n 2, 1) := by decide +kernel
theorem dX5_findWorst_61 : decode cX5_findWorst 61 = .ok (.if_icmp .lt 54, 3) := by decide +kernel
theorem dX5_findWorst_64 : decode cX5_findWorst 64 = .ok (.aload_n 0, 1) := by decide +kernel
theorem dX5_findWorst_65 : decode cX5_findWorst 65 = .ok (.iload_n 1, 1) := by decide +kernel
theorem dX5_findWorst_66 : decode cX5_findWorst 66 = .ok (.invokevirtual 122, 3) := by decide +kernel
theorem dX5_findWorst_69 : decode cX5_findWorst 69 = .ok (.iload_n 3, 1) := by decide +kernel
theorem dX5_findWorst_70 : decode cX5_findWorst 70 = .ok (.iconst (-1), 1) := by decide +kernel
theorem dX5_findWorst_71 : decode cX5_findWorst 71 = .ok (.if_icmp .eq 25, 3) := by decide +kernel
theorem dX5_findWorst_74 : decode cX5_findWorst 74 = .ok (.aload_n 0, 1) := by decide +kernel
theorem dX5_findWorst_75 : decode cX5_findWorst 75 = .ok (.getfield 107, 3) := by decide +kernel
theorem dX5_findWorst_78 : decode cX5_findWorst 78 = .ok (.aload_n 0, 1) := by decide +kernel
theorem dX5_findWorst_79 : decode cX5_findWorst 79 = .ok (.getfield 139, 3) := by decide +kernel
theorem dX5_findWorst_82 : decode cX5_findWorst 82 = .ok (.lmul, 1) := by decide +kernel
theorem dX5_findWorst_83 : decode cX5_findWorst 83 = .ok (.aload_n 0, 1) := by decide +kernel
theorem dX5_findWorst_84 : decode cX5_findWorst 84 = .ok (.getfield 142, 3) := by decide +kernel
theorem dX5_findWorst_87 : decode cX5_findWorst 87 = .ok (.aload_n 0, 1) := by decide +kernel
theorem dX5_findWorst_88 : decode cX5_findWorst 88 = .ok (.getfield 111, 3) := by decide +kernel
theorem dX5_findWorst_91 : decode cX5_findWorst 91 = .ok (.lmul, 1) := by decide +kernel
theorem dX5_findWorst_92 : decode cX5_findWorst 92 = .ok (.lcmp, 1) := by decide +kernel
theorem dX5_findWorst_93 : decode cX5_findWorst 93 = .ok (.ifCond .le 22, 3) := by decide +kernel
theorem dX5_findWorst_96 : decode cX5_findWorst 96 = .ok (.iload 4, 2) := by decide +kernel
theorem dX5_findWorst_98 : decode cX5_findWorst 98 = .ok (.istore_n 3, 1) := by decide +kernel
theorem dX5_findWorst_99 : decode cX5_findWorst 99 = .ok (.aload_n 0, 1) := by decide +kernel
theorem dX5_findWorst_100 : decode cX5_findWorst 100 = .ok (.aload_n 0, 1) := by decide +kernel
theorem dX5_findWorst_101 : decode cX5_findWorst 101 = .ok (.getfield 107, 3) := by decide +kernel
theorem dX5_findWorst_104 : decode cX5_findWorst 104 = .ok (.putfield 142, 3) := by decide +kernel
theorem dX5_findWorst_107 : decode cX5_findWorst 107 = .ok (.aload_n 0, 1) := by decide +kernel
theorem dX5_findWorst_108 : decode cX5_findWorst 108 = .ok (.aload_n 0, 1) := by decide +kernel
theorem dX5_findWorst_109 : decode cX5_findWorst 109 = .ok (.getfield 111, 3) := by decide +kernel
theorem dX5_findWorst_112 : decode cX5_findWorst 112 = .ok (.putfield 139, 3) := by decide +kernel
theorem dX5_findWorst_115 : decode cX5_findWorst 115 = .ok (.iinc 4 1, 3) := by decide +kernel
theorem dX5_findWorst_118 : decode cX5_findWorst 118 = .ok (.goto (-113), 3) := by decide +kernel
theorem dX5_findWorst_121 : decode cX5_findWorst 121 = .ok (.iload_n 3, 1) := by decide +kernel
theorem dX5_findWorst_122 : decode cX5_findWorst 122 = .ok (.ireturn, 1) := by decide +kernel
set_option maxRecDepth 20000 in
theorem ggX5_worst_X5_in : GoodIn wsX5_worst wsX5_in := goodIn_r _ [9] (by decide +kernel) (by decide +kernel)
set_option maxRecDepth 20000 in
theorem gX5_worst_X5_in : GoodIn wsX5_worst (va_wsS RX5 32 yX5_in wsX5_in) := goodIn_app (goodIn_of _ (by decide +kernel)) ggX5_worst_X5_in
set_option maxRecDepth 20000 in
theorem ggX5_worst_X5_isPlace : GoodIn wsX5_worst wsX5_isPlace := goodIn_r _ [13, 1, 6, 7, 8, 9, 52, 53, 54, 55, 56, 57, 58, 59, 60, 61, 62] (by decide +kernel) (by decide +kernel)
set_option maxRecDepth 20000 in
theorem gX5_worst_X5_isPlace : GoodIn wsX5_worst (wsV RX5 36 RX5 yX5_isPlace wsX5_isPlace) := goodIn_app (goodIn_of _ (by decide +kernel)) ggX5_worst_X5_isPlace
set_option maxRecDepth 20000 in
theorem ggX5_worst_X5_findWorst : GoodIn wsX5_worst wsX5_findWorst := goodIn_r _ [17, 1, 18, 3, 4, 2, 5, 19, 20, 21, 8, 22, 23, 24, 25, 26, 27, 28, 29, 30, 31, 32, 33, 34, 35, 36, 37, 38, 39, 40, 41, 42, 43, 44, 45, 46, 47, 52, 53, 54, 55, 56, 57, 58, 59, 60, 61, 62] (by decide +kernel) (by decide +kernel)
set_option maxRecDepth 20000 in
theorem gX5_worst_X5_findWorst : GoodIn wsX5_worst (wsV RX5 145 RX5 yX5_findWorst wsX5_findWorst) := goodIn_app (goodIn_of _ (by decide +kernel)) ggX5_worst_X5_findWorst
set_option maxRecDepth 20000 in
theorem ggX5_worst_X5_reduce : GoodIn wsX5_worst wsX5_reduce := goodIn_r _ [51, 3, 5, 52, 53, 54, 55, 56, 57, 58, 59, 60, 61, 62] (by decide +kernel) (by decide +kernel)
set_option maxRecDepth 20000 in
theorem gX5_worst_X5_reduce : GoodIn wsX5_worst (wsV RX5 131 RX5 yX5_reduce wsX5_reduce) := goodIn_app (goodIn_of _ (by decide +kernel)) ggX5_worst_X5_reduce
theorem dX5_worst_0 : decode cX5_worst 0 = .ok (.iload_n 1, 1) := by decide +kernel
theorem dX5_worst_1 : decode cX5_worst 1 = .ok (.iconst 0, 1) := by decide +kernel
theorem dX5_worst_2 : decode cX5_worst 2 = .ok (.iconst 3, 1) := by decide +kernel
theorem dX5_worst_3 : decode cX5_worst 3 = .ok (.invokestatic 32, 3) := by decide +kernel
theorem dX5_worst_6 : decode cX5_worst 6 = .ok (.ifCond .eq 43, 3) := by decide +kernel
theorem dX5_worst_9 : decode cX5_worst 9 = .ok (.iload_n 2, 1) := by decide +kernel
theorem dX5_worst_10 : decode cX5_worst 10 = .ok (.iconst 0, 1) := by decide +kernel
theorem dX5_worst_11 : decode cX5_worst 11 = .ok (.bipush 8, 2) := by decide +kernel
theorem dX5_worst_13 : decode cX5_worst 13 = .ok (.invokestatic 32, 3) := by decide +kernel
theorem dX5_worst_16 : decode cX5_worst 16 = .ok (.ifCond .eq 33, 3) := by decide +kernel
theorem dX5_worst_19 : decode cX5_worst 19 = .ok (.iload 4, 2) := by decide +kernel
theorem dX5_worst_21 : decode cX5_worst 21 = .ok (.iconst 0, 1) := by decide +kernel
theorem dX5_worst_22 : decode cX5_worst 22 = .ok (.iconst 2, 1) := by decide +kernel
theorem dX5_worst_23 : decode cX5_worst 23 = .ok (.invokestatic 32, 3) := by decide +kernel
theorem dX5_worst_26 : decode cX5_worst 26 = .ok (.ifCond .eq 23, 3) := by decide +kernel
theorem dX5_worst_29 : decode cX5_worst 29 = .ok (.iload 4, 2) := by decide +kernel
theorem dX5_worst_31 : decode cX5_worst 31 = .ok (.ifCond .ne 14, 3) := by decide +kernel
theorem dX5_worst_34 : decode cX5_worst 34 = .ok (.aload_n 0, 1) := by decide +kernel
theorem dX5_worst_35 : decode cX5_worst 35 = .ok (.iload_n 3, 1) := by decide +kernel
theorem dX5_worst_36 : decode cX5_worst 36 = .ok (.invokevirtual 36, 3) := by decide +kernel
theorem dX5_worst_39 : decode cX5_worst 39 = .ok (.ifCond .ne 13, 3) := by decide +kernel
theorem dX5_worst_42 : decode cX5_worst 42 = .ok (.goto 7, 3) := by decide +kernel
theorem dX5_worst_45 : decode cX5_worst 45 = .ok (.iload_n 3, 1) := by decide +kernel
theorem dX5_worst_46 : decode cX5_worst 46 = .ok (.ifCond .eq 6, 3) := by decide +kernel
theorem dX5_worst_49 : decode cX5_worst 49 = .ok (.bipush (-2), 2) := by decide +kernel
theorem dX5_worst_51 : decode cX5_worst 51 = .ok (.ireturn, 1) := by decide +kernel
theorem dX5_worst_52 : decode cX5_worst 52 = .ok (.aload_n 0, 1) := by decide +kernel
theorem dX5_worst_53 : decode cX5_worst 53 = .ok (.iload_n 1, 1) := by decide +kernel
theorem dX5_worst_54 : decode cX5_worst 54 = .ok (.iload_n 2, 1) := by decide +kernel
theorem dX5_worst_55 : decode cX5_worst 55 = .ok (.invokevirtual 145, 3) := by decide +kernel
theorem dX5_worst_58 : decode cX5_worst 58 = .ok (.istore 5, 2) := by decide +kernel
theorem dX5_worst_60 : decode cX5_worst 60 = .ok (.iload 5, 2) := by decide +kernel
theorem dX5_worst_62 : decode cX5_worst 62 = .ok (.iconst (-1), 1) := by decide +kernel
theorem dX5_worst_63 : decode cX5_worst 63 = .ok (.if_icmp .ne 5, 3) := by decide +kernel
theorem dX5_worst_66 : decode cX5_worst 66 = .ok (.iconst (-1), 1) := by decide +kernel
theorem dX5_worst_67 : decode cX5_worst 67 = .ok (.ireturn, 1) := by decide +kernel
theorem dX5_worst_68 : decode cX5_worst 68 = .ok (.iload 4, 2) := by decide +kernel
theorem dX5_worst_70 : decode cX5_worst 70 = .ok (.ifCond .ne 17, 3) := by decide +kernel
theorem dX5_worst_73 : decode cX5_worst 73 = .ok (.iload 5, 2) := by decide +kernel
theorem dX5_worst_75 : decode cX5_worst 75 = .ok (.aload_n 0, 1) := by decide +kernel
theorem dX5_worst_76 : decode cX5_worst 76 = .ok (.getfield 7, 3) := by decide +kernel
theorem dX5_worst_79 : decode cX5_worst 79 = .ok (.iconst 1, 1) := by decide +kernel
theorem dX5_worst_80 : decode cX5_worst 80 = .ok (.isub, 1) := by decide +kernel
theorem dX5_worst_81 : decode cX5_worst 81 = .ok (.iload_n 3, 1) := by decide +kernel
theorem dX5_worst_82 : decode cX5_worst 82 = .ok (.isub, 1) := by decide +kernel
theorem dX5_worst_83 : decode cX5_worst 83 = .ok (.ishr, 1) := by decide +kernel
theorem dX5_worst_84 : decode cX5_worst 84 = .ok (.iconst 1, 1) := by decide +kernel
theorem dX5_worst_85 : decode cX5_worst 85 = .ok (.iand, 1) := by decide +kernel
theorem dX5_worst_86 : decode cX5_worst 86 = .ok (.ireturn, 1) := by decide +kernel
theorem dX5_worst_87 : decode cX5_worst 87 = .ok (.aload_n 0, 1) := by decide +kernel
theorem dX5_worst_88 : decode cX5_worst 88 = .ok (.aload_n 0, 1) := by decide +kernel
theorem dX5_worst_89 : decode cX5_worst 89 = .ok (.getfield 142, 3) := by decide +kernel
theorem dX5_worst_92 : decode cX5_worst 92 = .ok (.putfield 107, 3) := by decide +kernel
theorem dX5_worst_95 : decode cX5_worst 95 = .ok (.aload_n 0, 1) := by decide +kernel
theorem dX5_worst_96 : decode cX5_worst 96 = .ok (.aload_n 0, 1) := by decide +kernel
theorem dX5_worst_97 : decode cX5_worst 97 = .ok (.getfield 139, 3) := by decide +kernel
theorem dX5_worst_100 : decode cX5_worst 100 = .ok (.putfield 111, 3) := by decide +kernel
theorem dX5_worst_103 : decode cX5_worst 103 = .ok (.aload_n 0, 1) := by decide +kernel
theorem dX5_worst_104 : decode cX5_worst 104 = .ok (.invokevirtual 131, 3) := by decide +kernel
theorem dX5_worst_107 : decode cX5_worst 107 = .ok (.iload 4, 2) := by decide +kernel
theorem dX5_worst_109 : decode cX5_worst 109 = .ok (.iconst 1, 1) := by decide +kernel
theorem dX5_worst_110 : decode cX5_worst 110 = .ok (.if_icmp .ne 10, 3) := by decide +kernel
theorem dX5_worst_113 : decode cX5_worst 113 = .ok (.aload_n 0, 1) := by decide +kernel
theorem dX5_worst_114 : decode cX5_worst 114 = .ok (.getfield 107, 3) := by decide +kernel
theorem dX5_worst_117 : decode cX5_worst 117 = .ok (.goto 7, 3) := by decide +kernel
theorem dX5_worst_120 : decode cX5_worst 120 = .ok (.aload_n 0, 1) := by decide +kernel
theorem dX5_worst_121 : decode cX5_worst 121 = .ok (.getfield 111, 3) := by decide +kernel
theorem dX5_worst_124 : decode cX5_worst 124 = .ok (.l2i, 1) := by decide +kernel
theorem dX5_worst_125 : decode cX5_worst 125 = .ok (.ireturn, 1) := by decide +kernel
set_option maxRecDepth 20000 in
theorem ggX5_mended_X5_isEight : GoodIn wsX5_mended wsX5_isEight := goodIn_r _ [5, 6, 7, 4, 8] (by decide +kernel) (by decide +kernel)
set_option maxRecDepth 20000 in
theorem gX5_mended_X5_isEight : GoodIn wsX5_mended (va_wsS RX5 40 yX5_isEight wsX5_isEight) := goodIn_app (goodIn_of _ (by decide +kernel)) ggX5_mended_X5_isEight
set_option maxRecDepth 20000 in
theorem ggX5_mended_X5_isBit : GoodIn wsX5_mended wsX5_isBit := goodIn_r _ [11, 6, 7, 4, 8] (by decide +kernel) (by decide +kernel)
set_option maxRecDepth 20000 in
theorem gX5_mended_X5_isBit : GoodIn wsX5_mended (va_wsS RX5 43 yX5_isBit wsX5_isBit) := goodIn_app (goodIn_of _ (by decide +kernel)) ggX5_mended_X5_isBit
theorem dX5_mended_0 : decode cX5_mended 0 = .ok (.iload_n 1, 1) := by decide +kernel
theorem dX5_mended_1 : decode cX5_mended 1 = .ok (.invokestatic 40, 3) := by decide +kernel
theorem dX5_mended_4 : decode cX5_mended 4 = .ok (.ifCond .eq 10, 3) := by decide +kernel
theorem dX5_mended_7 : decode cX5_mended 7 = .ok (.iload_n 2, 1) := by decide +kernel
theorem dX5_mended_8 : decode cX5_mended 8 = .ok (.invokestatic 43, 3) := by decide +kernel
theorem dX5_mended_11 : decode cX5_mended 11 = .ok (.ifCond .ne 6, 3) := by decide +kernel
theorem dX5_mended_14 : decode cX5_mended 14 = .ok (.bipush (-2), 2) := by decide +kernel
theorem dX5_mended_16 : decode cX5_mended 16 = .ok (.ireturn, 1) := by decide +kernel
theorem dX5_mended_17 : decode cX5_mended 17 = .ok (.iconst 0, 1) := by decide +kernel
theorem dX5_mended_18 : decode cX5_mended 18 = .ok (.istore_n 3, 1) := by decide +kernel
theorem dX5_mended_19 : decode cX5_mended 19 = .ok (.iconst 0, 1) := by decide +kernel
theorem dX5_mended_20 : decode cX5_mended 20 = .ok (.istore 4, 2) := by decide +kernel
theorem dX5_mended_22 : decode cX5_mended 22 = .ok (.iload 4, 2) := by decide +kernel
theorem dX5_mended_24 : decode cX5_mended 24 = .ok (.bipush 8, 2) := by decide +kernel
theorem dX5_mended_26 : decode cX5_mended 26 = .ok (.if_icmp .ge 40, 3) := by decide +kernel
theorem dX5_mended_29 : decode cX5_mended 29 = .ok (.iload_n 3, 1) := by decide +kernel
theorem dX5_mended_30 : decode cX5_mended 30 = .ok (.aload_n 0, 1) := by decide +kernel
theorem dX5_mended_31 : decode cX5_mended 31 = .ok (.getfield 17, 3) := by decide +kernel
theorem dX5_mended_34 : decode cX5_mended 34 = .ok (.iload 4, 2) := by decide +kernel
theorem dX5_mended_36 : decode cX5_mended 36 = .ok (.iaload, 1) := by decide +kernel
theorem dX5_mended_37 : decode cX5_mended 37 = .ok (.aload_n 0, 1) := by decide +kernel
theorem dX5_mended_38 : decode cX5_mended 38 = .ok (.getfield 17, 3) := by decide +kernel
theorem dX5_mended_41 : decode cX5_mended 41 = .ok (.iload_n 1, 1) := by decide +kernel
theorem dX5_mended_42 : decode cX5_mended 42 = .ok (.iload 4, 2) := by decide +kernel
theorem dX5_mended_44 : decode cX5_mended 44 = .ok (.ixor, 1) := by decide +kernel
theorem dX5_mended_45 : decode cX5_mended 45 = .ok (.iaload, 1) := by decide +kernel
theorem dX5_mended_46 : decode cX5_mended 46 = .ok (.iadd, 1) := by decide +kernel
theorem dX5_mended_47 : decode cX5_mended 47 = .ok (.iconst 2, 1) := by decide +kernel
theorem dX5_mended_48 : decode cX5_mended 48 = .ok (.irem, 1) := by decide +kernel
theorem dX5_mended_49 : decode cX5_mended 49 = .ok (.iload_n 2, 1) := by decide +kernel
theorem dX5_mended_50 : decode cX5_mended 50 = .ok (.if_icmp .ne 7, 3) := by decide +kernel
theorem dX5_mended_53 : decode cX5_mended 53 = .ok (.iconst 1, 1) := by decide +kernel
theorem dX5_mended_54 : decode cX5_mended 54 = .ok (.goto 4, 3) := by decide +kernel
theorem dX5_mended_57 : decode cX5_mended 57 = .ok (.iconst 0, 1) := by decide +kernel
theorem dX5_mended_58 : decode cX5_mended 58 = .ok (.iadd, 1) := by decide +kernel
theorem dX5_mended_59 : decode cX5_mended 59 = .ok (.istore_n 3, 1) := by decide +kernel
theorem dX5_mended_60 : decode cX5_mended 60 = .ok (.iinc 4 1, 3) := by decide +kernel
theorem dX5_mended_63 : decode cX5_mended 63 = .ok (.goto (-41), 3) := by decide +kernel
theorem dX5_mended_66 : decode cX5_mended 66 = .ok (.iload_n 3, 1) := by decide +kernel
theorem dX5_mended_67 : decode cX5_mended 67 = .ok (.ireturn, 1) := by decide +kernel
set_option maxRecDepth 20000 in
theorem ggX5_maySubject_X5_isPlace : GoodIn wsX5_maySubject wsX5_isPlace := goodIn_r _ [6, 7, 8, 9, 5, 10, 17, 18, 19, 20, 21, 22, 23, 24, 25, 26, 27] (by decide +kernel) (by decide +kernel)
set_option maxRecDepth 20000 in
theorem gX5_maySubject_X5_isPlace : GoodIn wsX5_maySubject (wsV RX5 36 RX5 yX5_isPlace wsX5_isPlace) := goodIn_app (goodIn_of _ (by decide +kernel)) ggX5_maySubject_X5_isPlace
set_option maxRecDepth 20000 in
theorem ggX5_maySubject_X5_isEight : GoodIn wsX5_maySubject wsX5_isEight := goodIn_r _ [13, 8, 9, 5, 10] (by decide +kernel) (by decide +kernel)
set_option maxRecDepth 20000 in
theorem gX5_maySubject_X5_isEight : GoodIn wsX5_maySubject (va_wsS RX5 40 yX5_isEight wsX5_isEight) := goodIn_app (goodIn_of _ (by decide +kernel)) ggX5_maySubject_X5_isEight
set_option maxRecDepth 20000 in
theorem ggX5_maySubject_X5_in : GoodIn wsX5_maySubject wsX5_in := goodIn_r _ [10] (by decide +kernel) (by decide +kernel)
set_option maxRecDepth 20000 in
theorem gX5_maySubject_X5_in : GoodIn wsX5_maySubject (va_wsS RX5 32 yX5_in wsX5_in) := goodIn_app (goodIn_of _ (by decide +kernel)) ggX5_maySubject_X5_in
set_option maxRecDepth 20000 in
theorem ggX5_maySubject_X5_ones : GoodIn wsX5_maySubject wsX5_ones := goodIn_r _ [16] (by decide +kernel) (by decide +kernel)
set_option maxRecDepth 20000 in
theorem gX5_maySubject_X5_ones : GoodIn wsX5_maySubject (va_wsS RX5 46 yX5_ones wsX5_ones) := goodIn_app (goodIn_of _ (by decide +kernel)) ggX5_maySubject_X5_ones
theorem dX5_maySubject_0 : decode cX5_maySubject 0 = .ok (.iload_n 1, 1) := by decide +kernel
theorem dX5_maySubject_1 : decode cX5_maySubject 1 = .ok (.ifCond .ne 30, 3) := by decide +kernel
theorem dX5_maySubject_4 : decode cX5_maySubject 4 = .ok (.aload_n 0, 1) := by decide +kernel
theorem dX5_maySubject_5 : decode cX5_maySubject 5 = .ok (.iload_n 2, 1) := by decide +kernel
theorem dX5_maySubject_6 : decode cX5_maySubject 6 = .ok (.invokevirtual 36, 3) := by decide +kernel
theorem dX5_maySubject_9 : decode cX5_maySubject 9 = .ok (.ifCond .eq 20, 3) := by decide +kernel
theorem dX5_maySubject_12 : decode cX5_maySubject 12 = .ok (.aload_n 0, 1) := by decide +kernel
theorem dX5_maySubject_13 : decode cX5_maySubject 13 = .ok (.iload_n 3, 1) := by decide +kernel
theorem dX5_maySubject_14 : decode cX5_maySubject 14 = .ok (.invokevirtual 36, 3) := by decide +kernel
theorem dX5_maySubject_17 : decode cX5_maySubject 17 = .ok (.ifCond .eq 12, 3) := by decide +kernel
theorem dX5_maySubject_20 : decode cX5_maySubject 20 = .ok (.iload_n 2, 1) := by decide +kernel
theorem dX5_maySubject_21 : decode cX5_maySubject 21 = .ok (.iload_n 3, 1) := by decide +kernel
theorem dX5_maySubject_22 : decode cX5_maySubject 22 = .ok (.if_icmp .ge 7, 3) := by decide +kernel
theorem dX5_maySubject_25 : decode cX5_maySubject 25 = .ok (.iconst 1, 1) := by decide +kernel
theorem dX5_maySubject_26 : decode cX5_maySubject 26 = .ok (.goto 4, 3) := by decide +kernel
theorem dX5_maySubject_29 : decode cX5_maySubject 29 = .ok (.iconst 0, 1) := by decide +kernel
theorem dX5_maySubject_30 : decode cX5_maySubject 30 = .ok (.ireturn, 1) := by decide +kernel
theorem dX5_maySubject_31 : decode cX5_maySubject 31 = .ok (.iload_n 1, 1) := by decide +kernel
theorem dX5_maySubject_32 : decode cX5_maySubject 32 = .ok (.iconst 4, 1) := by decide +kernel
theorem dX5_maySubject_33 : decode cX5_maySubject 33 = .ok (.if_icmp .ne 23, 3) := by decide +kernel
theorem dX5_maySubject_36 : decode cX5_maySubject 36 = .ok (.iload_n 2, 1) := by decide +kernel
theorem dX5_maySubject_37 : decode cX5_maySubject 37 = .ok (.invokestatic 40, 3) := by decide +kernel
theorem dX5_maySubject_40 : decode cX5_maySubject 40 = .ok (.ifCond .eq 14, 3) := by decide +kernel
theorem dX5_maySubject_43 : decode cX5_maySubject 43 = .ok (.iload_n 3, 1) := by decide +kernel
theorem dX5_maySubject_44 : decode cX5_maySubject 44 = .ok (.invokestatic 40, 3) := by decide +kernel
theorem dX5_maySubject_47 : decode cX5_maySubject 47 = .ok (.ifCond .eq 7, 3) := by decide +kernel
theorem dX5_maySubject_50 : decode cX5_maySubject 50 = .ok (.iconst 1, 1) := by decide +kernel
theorem dX5_maySubject_51 : decode cX5_maySubject 51 = .ok (.goto 4, 3) := by decide +kernel
theorem dX5_maySubject_54 : decode cX5_maySubject 54 = .ok (.iconst 0, 1) := by decide +kernel
theorem dX5_maySubject_55 : decode cX5_maySubject 55 = .ok (.ireturn, 1) := by decide +kernel
theorem dX5_maySubject_56 : decode cX5_maySubject 56 = .ok (.iload_n 1, 1) := by decide +kernel
theorem dX5_maySubject_57 : decode cX5_maySubject 57 = .ok (.iconst 5, 1) := by decide +kernel
theorem dX5_maySubject_58 : decode cX5_maySubject 58 = .ok (.if_icmp .ne 32, 3) := by decide +kernel
theorem dX5_maySubject_61 : decode cX5_maySubject 61 = .ok (.iload_n 2, 1) := by decide +kernel
theorem dX5_maySubject_62 : decode cX5_maySubject 62 = .ok (.iconst 0, 1) := by decide +kernel
theorem dX5_maySubject_63 : decode cX5_maySubject 63 = .ok (.bipush 63, 2) := by decide +kernel
theorem dX5_maySubject_65 : decode cX5_maySubject 65 = .ok (.invokestatic 32, 3) := by decide +kernel
theorem dX5_maySubject_68 : decode cX5_maySubject 68 = .ok (.ifCond .eq 22, 3) := by decide +kernel
theorem dX5_maySubject_71 : decode cX5_maySubject 71 = .ok (.iload_n 2, 1) := by decide +kernel
theorem dX5_maySubject_72 : decode cX5_maySubject 72 = .ok (.invokestatic 46, 3) := by decide +kernel
theorem dX5_maySubject_75 : decode cX5_maySubject 75 = .ok (.aload_n 0, 1) := by decide +kernel
theorem dX5_maySubject_76 : decode cX5_maySubject 76 = .ok (.getfield 23, 3) := by decide +kernel
theorem dX5_maySubject_79 : decode cX5_maySubject 79 = .ok (.if_icmp .ne 11, 3) := by decide +kernel
theorem dX5_maySubject_82 : decode cX5_maySubject 82 = .ok (.iload_n 3, 1) := by decide +kernel
theorem dX5_maySubject_83 : decode cX5_maySubject 83 = .ok (.ifCond .ne 7, 3) := by decide +kernel
theorem dX5_maySubject_86 : decode cX5_maySubject 86 = .ok (.iconst 1, 1) := by decide +kernel
theorem dX5_maySubject_87 : decode cX5_maySubject 87 = .ok (.goto 4, 3) := by decide +kernel
theorem dX5_maySubject_90 : decode cX5_maySubject 90 = .ok (.iconst 0, 1) := by decide +kernel
theorem dX5_maySubject_91 : decode cX5_maySubject 91 = .ok (.ireturn, 1) := by decide +kernel
set_option maxRecDepth 20000 in
theorem ggX5_showsOf_X5_passesTable : GoodIn wsX5_showsOf wsX5_passesTable := goodIn_r _ [6] (by decide +kernel) (by decide +kernel)
set_option maxRecDepth 20000 in
theorem gX5_showsOf_X5_passesTable : GoodIn wsX5_showsOf (va_wsS RX5 116 yX5_passesTable wsX5_passesTable) := goodIn_app (goodIn_of _ (by decide +kernel)) ggX5_showsOf_X5_passesTable
set_option maxRecDepth 20000 in
theorem ggX5_showsOf_X5_passesNet : GoodIn wsX5_showsOf wsX5_passesNet := goodIn_r _ [10, 11, 12, 13, 5, 14, 15, 16, 17, 18, 19, 20, 21, 22, 23, 24, 25, 26, 27, 28, 29, 30] (by decide +kernel) (by decide +kernel)
set_option maxRecDepth 20000 in
theorem gX5_showsOf_X5_passesNet : GoodIn wsX5_showsOf (wsV RX5 119 RX5 yX5_passesNet wsX5_passesNet) := goodIn_app (goodIn_of _ (by decide +kernel)) ggX5_showsOf_X5_passesNet
theorem dX5_showsOf_0 : decode cX5_showsOf 0 = .ok (.iload_n 1, 1) := by decide +kernel
theorem dX5_showsOf_1 : decode cX5_showsOf 1 = .ok (.ifCond .ne 26, 3) := by decide +kernel
theorem dX5_showsOf_4 : decode cX5_showsOf 4 = .ok (.aload_n 0, 1) := by decide +kernel
theorem dX5_showsOf_5 : decode cX5_showsOf 5 = .ok (.getfield 13, 3) := by decide +kernel
theorem dX5_showsOf_8 : decode cX5_showsOf 8 = .ok (.iload_n 2, 1) := by decide +kernel
theorem dX5_showsOf_9 : decode cX5_showsOf 9 = .ok (.iaload, 1) := by decide +kernel
theorem dX5_showsOf_10 : decode cX5_showsOf 10 = .ok (.aload_n 0, 1) := by decide +kernel
theorem dX5_showsOf_11 : decode cX5_showsOf 11 = .ok (.getfield 13, 3) := by decide +kernel
theorem dX5_showsOf_14 : decode cX5_showsOf 14 = .ok (.iload_n 3, 1) := by decide +kernel
theorem dX5_showsOf_15 : decode cX5_showsOf 15 = .ok (.iaload, 1) := by decide +kernel
theorem dX5_showsOf_16 : decode cX5_showsOf 16 = .ok (.if_icmp .le 7, 3) := by decide +kernel
theorem dX5_showsOf_19 : decode cX5_showsOf 19 = .ok (.iconst 1, 1) := by decide +kernel
theorem dX5_showsOf_20 : decode cX5_showsOf 20 = .ok (.goto 59, 3) := by decide +kernel
theorem dX5_showsOf_23 : decode cX5_showsOf 23 = .ok (.iconst 0, 1) := by decide +kernel
theorem dX5_showsOf_24 : decode cX5_showsOf 24 = .ok (.goto 55, 3) := by decide +kernel
theorem dX5_showsOf_27 : decode cX5_showsOf 27 = .ok (.iload_n 1, 1) := by decide +kernel
theorem dX5_showsOf_28 : decode cX5_showsOf 28 = .ok (.iconst 4, 1) := by decide +kernel
theorem dX5_showsOf_29 : decode cX5_showsOf 29 = .ok (.if_icmp .ne 37, 3) := by decide +kernel
theorem dX5_showsOf_32 : decode cX5_showsOf 32 = .ok (.aload_n 0, 1) := by decide +kernel
theorem dX5_showsOf_33 : decode cX5_showsOf 33 = .ok (.getfield 17, 3) := by decide +kernel
theorem dX5_showsOf_36 : decode cX5_showsOf 36 = .ok (.iload_n 2, 1) := by decide +kernel
theorem dX5_showsOf_37 : decode cX5_showsOf 37 = .ok (.iaload, 1) := by decide +kernel
theorem dX5_showsOf_38 : decode cX5_showsOf 38 = .ok (.aload_n 0, 1) := by decide +kernel
theorem dX5_showsOf_39 : decode cX5_showsOf 39 = .ok (.getfield 17, 3) := by decide +kernel
theorem dX5_showsOf_42 : decode cX5_showsOf 42 = .ok (.iload_n 3, 1) := by decide +kernel
theorem dX5_showsOf_43 : decode cX5_showsOf 43 = .ok (.iaload, 1) := by decide +kernel
theorem dX5_showsOf_44 : decode cX5_showsOf 44 = .ok (.aload_n 0, 1) := by decide +kernel
theorem dX5_showsOf_45 : decode cX5_showsOf 45 = .ok (.getfield 17, 3) := by decide +kernel
theorem dX5_showsOf_48 : decode cX5_showsOf 48 = .ok (.iload_n 2, 1) := by decide +kernel
theorem dX5_showsOf_49 : decode cX5_showsOf 49 = .ok (.iload_n 3, 1) := by decide +kernel
theorem dX5_showsOf_50 : decode cX5_showsOf 50 = .ok (.ixor, 1) := by decide +kernel
theorem dX5_showsOf_51 : decode cX5_showsOf 51 = .ok (.iaload, 1) := by decide +kernel
theorem dX5_showsOf_52 : decode cX5_showsOf 52 = .ok (.invokestatic 116, 3) := by decide +kernel
theorem dX5_showsOf_55 : decode cX5_showsOf 55 = .ok (.ifCond .ne 7, 3) := by decide +kernel
theorem dX5_showsOf_58 : decode cX5_showsOf 58 = .ok (.iconst 1, 1) := by decide +kernel
theorem dX5_showsOf_59 : decode cX5_showsOf 59 = .ok (.goto 20, 3) := by decide +kernel
theorem dX5_showsOf_62 : decode cX5_showsOf 62 = .ok (.iconst 0, 1) := by decide +kernel
theorem dX5_showsOf_63 : decode cX5_showsOf 63 = .ok (.goto 16, 3) := by decide +kernel
theorem dX5_showsOf_66 : decode cX5_showsOf 66 = .ok (.aload_n 0, 1) := by decide +kernel
theorem dX5_showsOf_67 : decode cX5_showsOf 67 = .ok (.iload_n 2, 1) := by decide +kernel
theorem dX5_showsOf_68 : decode cX5_showsOf 68 = .ok (.invokevirtual 119, 3) := by decide +kernel
theorem dX5_showsOf_71 : decode cX5_showsOf 71 = .ok (.ifCond .ne 7, 3) := by decide +kernel
theorem dX5_showsOf_74 : decode cX5_showsOf 74 = .ok (.iconst 1, 1) := by decide +kernel
theorem dX5_showsOf_75 : decode cX5_showsOf 75 = .ok (.goto 4, 3) := by decide +kernel
theorem dX5_showsOf_78 : decode cX5_showsOf 78 = .ok (.iconst 0, 1) := by decide +kernel
theorem dX5_showsOf_79 : decode cX5_showsOf 79 = .ok (.ireturn, 1) := by decide +kernel
set_option maxRecDepth 20000 in
theorem ggX5_shows_X5_maySubject : GoodIn wsX5_shows wsX5_maySubject := goodIn_r _ [5, 6, 7, 8, 9, 4, 10, 11, 12, 13, 14, 15, 16, 17, 18, 19, 20, 43, 44, 45, 46, 47, 48, 49, 50, 51, 52, 53] (by decide +kernel) (by decide +kernel)
set_option maxRecDepth 20000 in
theorem gX5_shows_X5_maySubject : GoodIn wsX5_shows (wsV RX5 148 RX5 yX5_maySubject wsX5_maySubject) := goodIn_app (goodIn_of _ (by decide +kernel)) ggX5_shows_X5_maySubject
set_option maxRecDepth 20000 in
theorem ggX5_shows_X5_showsOf : GoodIn wsX5_shows wsX5_showsOf := goodIn_r _ [24, 25, 26, 27, 28, 4, 29, 30, 31, 32, 33, 34, 35, 36, 37, 38, 39, 40, 41, 42, 43, 44, 45, 46, 47, 48, 49, 50, 51, 52, 53] (by decide +kernel) (by decide +kernel)
set_option maxRecDepth 20000 in
theorem gX5_shows_X5_showsOf : GoodIn wsX5_shows (wsV RX5 151 RX5 yX5_showsOf wsX5_showsOf) := goodIn_app (goodIn_of _ (by decide +kernel)) ggX5_shows_X5_showsOf
theorem dX5_shows_0 : decode cX5_shows 0 = .ok (.aload_n 0, 1) := by decide +kernel
theorem dX5_shows_1 : decode cX5_shows 1 = .ok (.iload_n 1, 1) := by decide +kernel
theorem dX5_shows_2 : decode cX5_shows 2 = .ok (.iload_n 2, 1) := by decide +kernel
theorem dX5_shows_3 : decode cX5_shows 3 = .ok (.iload_n 3, 1) := by decide +kernel
theorem dX5_shows_4 : decode cX5_shows 4 = .ok (.invokevirtual 148, 3) := by decide +kernel
theorem dX5_shows_7 : decode cX5_shows 7 = .ok (.ifCond .ne 8, 3) := by decide +kernel
theorem dX5_shows_10 : decode cX5_shows 10 = .ok (.bipush (-2), 2) := by decide +kernel
theorem dX5_shows_12 : decode cX5_shows 12 = .ok (.goto 18, 3) := by decide +kernel
theorem dX5_shows_15 : decode cX5_shows 15 = .ok (.aload_n 0, 1) := by decide +kernel
theorem dX5_shows_16 : decode cX5_shows 16 = .ok (.iload_n 1, 1) := by decide +kernel
theorem dX5_shows_17 : decode cX5_shows 17 = .ok (.iload_n 2, 1) := by decide +kernel
theorem dX5_shows_18 : decode cX5_shows 18 = .ok (.iload_n 3, 1) := by decide +kernel
theorem dX5_shows_19 : decode cX5_shows 19 = .ok (.invokevirtual 151, 3) := by decide +kernel
theorem dX5_shows_22 : decode cX5_shows 22 = .ok (.ifCond .eq 7, 3) := by decide +kernel
theorem dX5_shows_25 : decode cX5_shows 25 = .ok (.iconst 1, 1) := by decide +kernel
theorem dX5_shows_26 : decode cX5_shows 26 = .ok (.goto 4, 3) := by decide +kernel
theorem dX5_shows_29 : decode cX5_shows 29 = .ok (.iconst 0, 1) := by decide +kernel
theorem dX5_shows_30 : decode cX5_shows 30 = .ok (.ireturn, 1) := by decide +kernel
set_option maxRecDepth 20000 in
theorem ggX5_witness_X5_maySubject : GoodIn wsX5_witness wsX5_maySubject := goodIn_r _ [5, 6, 7, 8, 9, 4, 10, 11, 12, 13, 14, 15, 16, 17, 18, 19, 20, 43, 44, 45, 46, 47, 48, 49, 50, 51, 52, 53] (by decide +kernel) (by decide +kernel)
set_option maxRecDepth 20000 in
theorem gX5_witness_X5_maySubject : GoodIn wsX5_witness (wsV RX5 148 RX5 yX5_maySubject wsX5_maySubject) := goodIn_app (goodIn_of _ (by decide +kernel)) ggX5_witness_X5_maySubject
set_option maxRecDepth 20000 in
theorem ggX5_witness_X5_showsOf : GoodIn wsX5_witness wsX5_showsOf := goodIn_r _ [24, 25, 26, 27, 28, 4, 29, 30, 31, 32, 33, 34, 35, 36, 37, 38, 39, 40, 41, 42, 43, 44, 45, 46, 47, 48, 49, 50, 51, 52, 53] (by decide +kernel) (by decide +kernel)
set_option maxRecDepth 20000 in
theorem gX5_witness_X5_showsOf : GoodIn wsX5_witness (wsV RX5 151 RX5 yX5_showsOf wsX5_showsOf) := goodIn_app (goodIn_of _ (by decide +kernel)) ggX5_witness_X5_showsOf
theorem dX5_witness_0 : decode cX5_witness 0 = .ok (.iload_n 1, 1) := by decide +kernel
theorem dX5_witness_1 : decode cX5_witness 1 = .ok (.ifCond .eq 16, 3) := by decide +kernel
theorem dX5_witness_4 : decode cX5_witness 4 = .ok (.iload_n 1, 1) := by decide +kernel
theorem dX5_witness_5 : decode cX5_witness 5 = .ok (.iconst 4, 1) := by decide +kernel
theorem dX5_witness_6 : decode cX5_witness 6 = .ok (.if_icmp .eq 11, 3) := by decide +kernel
theorem dX5_witness_9 : decode cX5_witness 9 = .ok (.iload_n 1, 1) := by decide +kernel
theorem dX5_witness_10 : decode cX5_witness 10 = .ok (.iconst 5, 1) := by decide +kernel
theorem dX5_witness_11 : decode cX5_witness 11 = .ok (.if_icmp .eq 6, 3) := by decide +kernel
theorem dX5_witness_14 : decode cX5_witness 14 = .ok (.bipush (-2), 2) := by decide +kernel
theorem dX5_witness_16 : decode cX5_witness 16 = .ok (.ireturn, 1) := by decide +kernel
theorem dX5_witness_17 : decode cX5_witness 17 = .ok (.iconst 0, 1) := by decide +kernel
theorem dX5_witness_18 : decode cX5_witness 18 = .ok (.istore_n 2, 1) := by decide +kernel
theorem dX5_witness_19 : decode cX5_witness 19 = .ok (.iload_n 2, 1) := by decide +kernel
theorem dX5_witness_20 : decode cX5_witness 20 = .ok (.bipush 64, 2) := by decide +kernel
theorem dX5_witness_22 : decode cX5_witness 22 = .ok (.if_icmp .ge 59, 3) := by decide +kernel
theorem dX5_witness_25 : decode cX5_witness 25 = .ok (.iconst 0, 1) := by decide +kernel
theorem dX5_witness_26 : decode cX5_witness 26 = .ok (.istore_n 3, 1) := by decide +kernel
theorem dX5_witness_27 : decode cX5_witness 27 = .ok (.iload_n 3, 1) := by decide +kernel
theorem dX5_witness_28 : decode cX5_witness 28 = .ok (.bipush 8, 2) := by decide +kernel
theorem dX5_witness_30 : decode cX5_witness 30 = .ok (.if_icmp .ge 45, 3) := by decide +kernel
theorem dX5_witness_33 : decode cX5_witness 33 = .ok (.aload_n 0, 1) := by decide +kernel
theorem dX5_witness_34 : decode cX5_witness 34 = .ok (.iload_n 1, 1) := by decide +kernel
theorem dX5_witness_35 : decode cX5_witness 35 = .ok (.iload_n 2, 1) := by decide +kernel
theorem dX5_witness_36 : decode cX5_witness 36 = .ok (.iload_n 3, 1) := by decide +kernel
theorem dX5_witness_37 : decode cX5_witness 37 = .ok (.invokevirtual 148, 3) := by decide +kernel
theorem dX5_witness_40 : decode cX5_witness 40 = .ok (.ifCond .eq 29, 3) := by decide +kernel
theorem dX5_witness_43 : decode cX5_witness 43 = .ok (.aload_n 0, 1) := by decide +kernel
theorem dX5_witness_44 : decode cX5_witness 44 = .ok (.iload_n 1, 1) := by decide +kernel
theorem dX5_witness_45 : decode cX5_witness 45 = .ok (.iload_n 2, 1) := by decide +kernel
theorem dX5_witness_46 : decode cX5_witness 46 = .ok (.iload_n 3, 1) := by decide +kernel
theorem dX5_witness_47 : decode cX5_witness 47 = .ok (.invokevirtual 151, 3) := by decide +kernel
theorem dX5_witness_50 : decode cX5_witness 50 = .ok (.ifCond .eq 19, 3) := by decide +kernel
theorem dX5_witness_53 : decode cX5_witness 53 = .ok (.iload_n 1, 1) := by decide +kernel
theorem dX5_witness_54 : decode cX5_witness 54 = .ok (.iconst 5, 1) := by decide +kernel
theorem dX5_witness_55 : decode cX5_witness 55 = .ok (.if_icmp .ne 7, 3) := by decide +kernel
theorem dX5_witness_58 : decode cX5_witness 58 = .ok (.iload_n 2, 1) := by decide +kernel
theorem dX5_witness_59 : decode cX5_witness 59 = .ok (.goto 9, 3) := by decide +kernel
theorem dX5_witness_62 : decode cX5_witness 62 = .ok (.bipush 100, 2) := by decide +kernel
theorem dX5_witness_64 : decode cX5_witness 64 = .ok (.iload_n 2, 1) := by decide +kernel
theorem dX5_witness_65 : decode cX5_witness 65 = .ok (.imul, 1) := by decide +kernel
theorem dX5_witness_66 : decode cX5_witness 66 = .ok (.iload_n 3, 1) := by decide +kernel
theorem dX5_witness_67 : decode cX5_witness 67 = .ok (.iadd, 1) := by decide +kernel
theorem dX5_witness_68 : decode cX5_witness 68 = .ok (.ireturn, 1) := by decide +kernel
theorem dX5_witness_69 : decode cX5_witness 69 = .ok (.iinc 3 1, 3) := by decide +kernel
theorem dX5_witness_72 : decode cX5_witness 72 = .ok (.goto (-45), 3) := by decide +kernel
theorem dX5_witness_75 : decode cX5_witness 75 = .ok (.iinc 2 1, 3) := by decide +kernel
theorem dX5_witness_78 : decode cX5_witness 78 = .ok (.goto (-59), 3) := by decide +kernel
theorem dX5_witness_81 : decode cX5_witness 81 = .ok (.iconst (-1), 1) := by decide +kernel
theorem dX5_witness_82 : decode cX5_witness 82 = .ok (.ireturn, 1) := by decide +kernel
set_option maxRecDepth 20000 in
theorem ggX5_count_X5_ones : GoodIn wsX5_count wsX5_ones := goodIn_r _ [9] (by decide +kernel) (by decide +kernel)
set_option maxRecDepth 20000 in
theorem gX5_count_X5_ones : GoodIn wsX5_count (va_wsS RX5 46 yX5_ones wsX5_ones) := goodIn_app (goodIn_of _ (by decide +kernel)) ggX5_count_X5_ones
theorem dX5_count_0 : decode cX5_count 0 = .ok (.iconst 0, 1) := by decide +kernel
theorem dX5_count_1 : decode cX5_count 1 = .ok (.istore_n 2, 1) := by decide +kernel
theorem dX5_count_2 : decode cX5_count 2 = .ok (.iload_n 1, 1) := by decide +kernel
theorem dX5_count_3 : decode cX5_count 3 = .ok (.tableswitch 125 0 4 #[33, 38, 43, 73, 98], 33) := by decide +kernel
theorem dX5_count_36 : decode cX5_count 36 = .ok (.aload_n 0, 1) := by decide +kernel
theorem dX5_count_37 : decode cX5_count 37 = .ok (.getfield 7, 3) := by decide +kernel
theorem dX5_count_40 : decode cX5_count 40 = .ok (.ireturn, 1) := by decide +kernel
theorem dX5_count_41 : decode cX5_count 41 = .ok (.aload_n 0, 1) := by decide +kernel
theorem dX5_count_42 : decode cX5_count 42 = .ok (.getfield 23, 3) := by decide +kernel
theorem dX5_count_45 : decode cX5_count 45 = .ok (.ireturn, 1) := by decide +kernel
theorem dX5_count_46 : decode cX5_count 46 = .ok (.iconst 0, 1) := by decide +kernel
theorem dX5_count_47 : decode cX5_count 47 = .ok (.istore_n 3, 1) := by decide +kernel
theorem dX5_count_48 : decode cX5_count 48 = .ok (.iload_n 3, 1) := by decide +kernel
theorem dX5_count_49 : decode cX5_count 49 = .ok (.bipush 6, 2) := by decide +kernel
theorem dX5_count_51 : decode cX5_count 51 = .ok (.if_icmp .ge 21, 3) := by decide +kernel
theorem dX5_count_54 : decode cX5_count 54 = .ok (.iload_n 2, 1) := by decide +kernel
theorem dX5_count_55 : decode cX5_count 55 = .ok (.aload_n 0, 1) := by decide +kernel
theorem dX5_count_56 : decode cX5_count 56 = .ok (.getfield 20, 3) := by decide +kernel
theorem dX5_count_59 : decode cX5_count 59 = .ok (.iload_n 3, 1) := by decide +kernel
theorem dX5_count_60 : decode cX5_count 60 = .ok (.iaload, 1) := by decide +kernel
theorem dX5_count_61 : decode cX5_count 61 = .ok (.invokestatic 46, 3) := by decide +kernel
theorem dX5_count_64 : decode cX5_count 64 = .ok (.iadd, 1) := by decide +kernel
theorem dX5_count_65 : decode cX5_count 65 = .ok (.istore_n 2, 1) := by decide +kernel
theorem dX5_count_66 : decode cX5_count 66 = .ok (.iinc 3 1, 3) := by decide +kernel
theorem dX5_count_69 : decode cX5_count 69 = .ok (.goto (-21), 3) := by decide +kernel
theorem dX5_count_72 : decode cX5_count 72 = .ok (.iload_n 2, 1) := by decide +kernel
theorem dX5_count_73 : decode cX5_count 73 = .ok (.iconst 2, 1) := by decide +kernel
theorem dX5_count_74 : decode cX5_count 74 = .ok (.idiv, 1) := by decide +kernel
theorem dX5_count_75 : decode cX5_count 75 = .ok (.ireturn, 1) := by decide +kernel
theorem dX5_count_76 : decode cX5_count 76 = .ok (.iconst 0, 1) := by decide +kernel
theorem dX5_count_77 : decode cX5_count 77 = .ok (.istore_n 3, 1) := by decide +kernel
theorem dX5_count_78 : decode cX5_count 78 = .ok (.iload_n 3, 1) := by decide +kernel
theorem dX5_count_79 : decode cX5_count 79 = .ok (.bipush 8, 2) := by decide +kernel
theorem dX5_count_81 : decode cX5_count 81 = .ok (.if_icmp .ge 18, 3) := by decide +kernel
theorem dX5_count_84 : decode cX5_count 84 = .ok (.iload_n 2, 1) := by decide +kernel
theorem dX5_count_85 : decode cX5_count 85 = .ok (.aload_n 0, 1) := by decide +kernel
theorem dX5_count_86 : decode cX5_count 86 = .ok (.getfield 17, 3) := by decide +kernel
theorem dX5_count_89 : decode cX5_count 89 = .ok (.iload_n 3, 1) := by decide +kernel
theorem dX5_count_90 : decode cX5_count 90 = .ok (.iaload, 1) := by decide +kernel
theorem dX5_count_91 : decode cX5_count 91 = .ok (.iadd, 1) := by decide +kernel
theorem dX5_count_92 : decode cX5_count 92 = .ok (.istore_n 2, 1) := by decide +kernel
theorem dX5_count_93 : decode cX5_count 93 = .ok (.iinc 3 1, 3) := by decide +kernel
theorem dX5_count_96 : decode cX5_count 96 = .ok (.goto (-18), 3) := by decide +kernel
theorem dX5_count_99 : decode cX5_count 99 = .ok (.iload_n 2, 1) := by decide +kernel
theorem dX5_count_100 : decode cX5_count 100 = .ok (.ireturn, 1) := by decide +kernel
theorem dX5_count_101 : decode cX5_count 101 = .ok (.iconst 0, 1) := by decide +kernel
theorem dX5_count_102 : decode cX5_count 102 = .ok (.istore_n 3, 1) := by decide +kernel
theorem dX5_count_103 : decode cX5_count 103 = .ok (.iload_n 3, 1) := by decide +kernel
theorem dX5_count_104 : decode cX5_count 104 = .ok (.aload_n 0, 1) := by decide +kernel
theorem dX5_count_105 : decode cX5_count 105 = .ok (.getfield 7, 3) := by decide +kernel
theorem dX5_count_108 : decode cX5_count 108 = .ok (.if_icmp .ge 18, 3) := by decide +kernel
theorem dX5_count_111 : decode cX5_count 111 = .ok (.iload_n 2, 1) := by decide +kernel
theorem dX5_count_112 : decode cX5_count 112 = .ok (.aload_n 0, 1) := by decide +kernel
theorem dX5_count_113 : decode cX5_count 113 = .ok (.getfield 13, 3) := by decide +kernel
theorem dX5_count_116 : decode cX5_count 116 = .ok (.iload_n 3, 1) := by decide +kernel
theorem dX5_count_117 : decode cX5_count 117 = .ok (.iaload, 1) := by decide +kernel
theorem dX5_count_118 : decode cX5_count 118 = .ok (.iadd, 1) := by decide +kernel
theorem dX5_count_119 : decode cX5_count 119 = .ok (.istore_n 2, 1) := by decide +kernel
theorem dX5_count_120 : decode cX5_count 120 = .ok (.iinc 3 1, 3) := by decide +kernel
theorem dX5_count_123 : decode cX5_count 123 = .ok (.goto (-20), 3) := by decide +kernel
theorem dX5_count_126 : decode cX5_count 126 = .ok (.iload_n 2, 1) := by decide +kernel
theorem dX5_count_127 : decode cX5_count 127 = .ok (.ireturn, 1) := by decide +kernel
theorem dX5_count_128 : decode cX5_count 128 = .ok (.bipush (-2), 2) := by decide +kernel
theorem dX5_count_130 : decode cX5_count 130 = .ok (.ireturn, 1) := by decide +kernel
