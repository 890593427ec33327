set_option maxRecDepth 20000 in
theorem ggX0_init_X2_init : GoodIn wsX0_init wsX2_init := goodIn_r _ [12, 13, 2, 3, 9, 14, 15, 16, 17] (by decide +kernel) (by decide +kernel)
set_option maxRecDepth 20000 in
theorem gX0_init_X2_init_n11 : GoodIn wsX0_init (wsX2_init) := ggX0_init_X2_init
theorem dX0_init_0 : decode cX0_init 0 = .ok (.aload_n 0, 1) := by decide +kernel
theorem dX0_init_1 : decode cX0_init 1 = .ok (.invokespecial 3, 3) := by decide +kernel
theorem dX0_init_4 : decode cX0_init 4 = .ok (.aload_n 0, 1) := by decide +kernel
theorem dX0_init_5 : decode cX0_init 5 = .ok (.new 9, 3) := by decide +kernel
theorem dX0_init_8 : decode cX0_init 8 = .ok (.dup, 1) := by decide +kernel
theorem dX0_init_9 : decode cX0_init 9 = .ok (.invokespecial 11, 3) := by decide +kernel
theorem dX0_init_12 : decode cX0_init 12 = .ok (.putfield 12, 3) := by decide +kernel
theorem dX0_init_15 : decode cX0_init 15 = .ok (.aload_n 0, 1) := by decide +kernel
theorem dX0_init_16 : decode cX0_init 16 = .ok (.new 9, 3) := by decide +kernel
theorem dX0_init_19 : decode cX0_init 19 = .ok (.dup, 1) := by decide +kernel
theorem dX0_init_20 : decode cX0_init 20 = .ok (.invokespecial 11, 3) := by decide +kernel
theorem dX0_init_23 : decode cX0_init 23 = .ok (.putfield 18, 3) := by decide +kernel
theorem dX0_init_26 : decode cX0_init 26 = .ok (.aload_n 0, 1) := by decide +kernel
theorem dX0_init_27 : decode cX0_init 27 = .ok (.bipush 36, 2) := by decide +kernel
theorem dX0_init_29 : decode cX0_init 29 = .ok (.newarray .int, 2) := by decide +kernel
theorem dX0_init_31 : decode cX0_init 31 = .ok (.putfield 21, 3) := by decide +kernel
theorem dX0_init_34 : decode cX0_init 34 = .ok (.return_, 1) := by decide +kernel
set_option maxRecDepth 20000 in
theorem ggX0_seek_X2_become : GoodIn wsX0_seek wsX2_become := goodIn_r _ [6, 7, 8, 62, 63] (by decide +kernel) (by decide +kernel)
set_option maxRecDepth 20000 in
theorem gX0_seek_X2_become : GoodIn wsX0_seek (wsV RX0 25 RX2 yX2_become wsX2_become) := goodIn_app (goodIn_of _ (by decide +kernel)) ggX0_seek_X2_become
set_option maxRecDepth 20000 in
theorem ggX0_seek_X0_raise : GoodIn wsX0_seek wsX0_raise := goodIn_r _ [13, 14, 1, 15, 16, 17, 12, 18, 19, 20, 21, 22, 23, 24, 25, 26, 62, 63, 59, 60, 61] (by decide +kernel) (by decide +kernel)
set_option maxRecDepth 20000 in
theorem gX0_seek_X0_raise : GoodIn wsX0_seek (wsV RX0 29 RX0 yX0_raise wsX0_raise) := goodIn_app (goodIn_of _ (by decide +kernel)) ggX0_seek_X0_raise
set_option maxRecDepth 20000 in
theorem ggX0_seek_X0_mirror : GoodIn wsX0_seek wsX0_mirror := goodIn_r _ [30, 1, 19, 20, 21, 22, 62, 63, 59, 60, 61] (by decide +kernel) (by decide +kernel)
set_option maxRecDepth 20000 in
theorem gX0_seek_X0_mirror : GoodIn wsX0_seek (wsV RX0 32 RX0 yX0_mirror wsX0_mirror) := goodIn_app (goodIn_of _ (by decide +kernel)) ggX0_seek_X0_mirror
set_option maxRecDepth 20000 in
theorem ggX0_seek_X0_makeEven : GoodIn wsX0_seek wsX0_makeEven := goodIn_r _ [34, 1, 35, 36, 37, 5, 38, 7, 8, 59, 60, 61, 62, 63] (by decide +kernel) (by decide +kernel)
set_option maxRecDepth 20000 in
theorem gX0_seek_X0_makeEven : GoodIn wsX0_seek (wsV RX0 35 RX0 yX0_makeEven wsX0_makeEven) := goodIn_app (goodIn_of _ (by decide +kernel)) ggX0_seek_X0_makeEven
set_option maxRecDepth 20000 in
theorem ggX0_seek_X0_makeRound : GoodIn wsX0_seek wsX0_makeRound := goodIn_r _ [42, 43, 1, 44, 45, 46, 12, 47, 2, 3, 4, 5, 6, 7, 8, 48, 49, 50, 51, 52, 53, 54, 55, 56, 57, 58, 62, 63, 59, 60, 61] (by decide +kernel) (by decide +kernel)
set_option maxRecDepth 20000 in
theorem gX0_seek_X0_makeRound : GoodIn wsX0_seek (wsV RX0 38 RX0 yX0_makeRound wsX0_makeRound) := goodIn_app (goodIn_of _ (by decide +kernel)) ggX0_seek_X0_makeRound
set_option maxRecDepth 20000 in
theorem ggX0_seek_X2_differing : GoodIn wsX0_seek wsX2_differing := goodIn_r _ [54, 7, 8, 62, 63] (by decide +kernel) (by decide +kernel)
set_option maxRecDepth 20000 in
theorem gX0_seek_X2_differing : GoodIn wsX0_seek (wsV RX0 41 RX2 yX2_differing wsX2_differing) := goodIn_app (goodIn_of _ (by decide +kernel)) ggX0_seek_X2_differing
theorem dX0_seek_0 : decode cX0_seek 0 = .ok (.aload_n 0, 1) := by decide +kernel
theorem dX0_seek_1 : decode cX0_seek 1 = .ok (.getfield 12, 3) := by decide +kernel
theorem dX0_seek_4 : decode cX0_seek 4 = .ok (.aload_n 1, 1) := by decide +kernel
theorem dX0_seek_5 : decode cX0_seek 5 = .ok (.invokevirtual 25, 3) := by decide +kernel
theorem dX0_seek_8 : decode cX0_seek 8 = .ok (.iload_n 2, 1) := by decide +kernel
theorem dX0_seek_9 : decode cX0_seek 9 = .ok (.tableswitch 50 0 2 #[27, 35, 43], 27) := by decide +kernel
theorem dX0_seek_36 : decode cX0_seek 36 = .ok (.aload_n 0, 1) := by decide +kernel
theorem dX0_seek_37 : decode cX0_seek 37 = .ok (.aload_n 1, 1) := by decide +kernel
theorem dX0_seek_38 : decode cX0_seek 38 = .ok (.invokevirtual 29, 3) := by decide +kernel
theorem dX0_seek_41 : decode cX0_seek 41 = .ok (.goto 23, 3) := by decide +kernel
theorem dX0_seek_44 : decode cX0_seek 44 = .ok (.aload_n 0, 1) := by decide +kernel
theorem dX0_seek_45 : decode cX0_seek 45 = .ok (.aload_n 1, 1) := by decide +kernel
theorem dX0_seek_46 : decode cX0_seek 46 = .ok (.invokevirtual 32, 3) := by decide +kernel
theorem dX0_seek_49 : decode cX0_seek 49 = .ok (.goto 15, 3) := by decide +kernel
theorem dX0_seek_52 : decode cX0_seek 52 = .ok (.aload_n 0, 1) := by decide +kernel
theorem dX0_seek_53 : decode cX0_seek 53 = .ok (.invokevirtual 35, 3) := by decide +kernel
theorem dX0_seek_56 : decode cX0_seek 56 = .ok (.goto 8, 3) := by decide +kernel
theorem dX0_seek_59 : decode cX0_seek 59 = .ok (.aload_n 0, 1) := by decide +kernel
theorem dX0_seek_60 : decode cX0_seek 60 = .ok (.aload_n 1, 1) := by decide +kernel
theorem dX0_seek_61 : decode cX0_seek 61 = .ok (.invokevirtual 38, 3) := by decide +kernel
theorem dX0_seek_64 : decode cX0_seek 64 = .ok (.aload_n 1, 1) := by decide +kernel
theorem dX0_seek_65 : decode cX0_seek 65 = .ok (.aload_n 0, 1) := by decide +kernel
theorem dX0_seek_66 : decode cX0_seek 66 = .ok (.getfield 12, 3) := by decide +kernel
theorem dX0_seek_69 : decode cX0_seek 69 = .ok (.invokevirtual 41, 3) := by decide +kernel
theorem dX0_seek_72 : decode cX0_seek 72 = .ok (.ireturn, 1) := by decide +kernel
set_option maxRecDepth 20000 in
theorem ggX0_raise_X0_fillCosts : GoodIn wsX0_raise wsX0_fillCosts := goodIn_r _ [7, 1, 8, 9, 10, 11, 12, 13, 14, 6, 15, 18, 19, 20, 16, 17] (by decide +kernel) (by decide +kernel)
set_option maxRecDepth 20000 in
theorem gX0_raise_X0_fillCosts : GoodIn wsX0_raise (wsV RX0 45 RX0 yX0_fillCosts wsX0_fillCosts) := goodIn_app (goodIn_of _ (by decide +kernel)) ggX0_raise_X0_fillCosts
set_option maxRecDepth 20000 in
theorem ggX0_raise_X0_costWith : GoodIn wsX0_raise wsX0_costWith := goodIn_r _ [15, 1, 16, 17, 18, 19, 20] (by decide +kernel) (by decide +kernel)
set_option maxRecDepth 20000 in
theorem gX0_raise_X0_costWith : GoodIn wsX0_raise (wsV RX0 52 RX0 yX0_costWith wsX0_costWith) := goodIn_app (goodIn_of _ (by decide +kernel)) ggX0_raise_X0_costWith
theorem dX0_raise_0 : decode cX0_raise 0 = .ok (.aload_n 0, 1) := by decide +kernel
theorem dX0_raise_1 : decode cX0_raise 1 = .ok (.aload_n 1, 1) := by decide +kernel
theorem dX0_raise_2 : decode cX0_raise 2 = .ok (.invokevirtual 45, 3) := by decide +kernel
theorem dX0_raise_5 : decode cX0_raise 5 = .ok (.iconst 0, 1) := by decide +kernel
theorem dX0_raise_6 : decode cX0_raise 6 = .ok (.istore_n 2, 1) := by decide +kernel
theorem dX0_raise_7 : decode cX0_raise 7 = .ok (.iconst 0, 1) := by decide +kernel
theorem dX0_raise_8 : decode cX0_raise 8 = .ok (.istore_n 3, 1) := by decide +kernel
theorem dX0_raise_9 : decode cX0_raise 9 = .ok (.iload_n 3, 1) := by decide +kernel
theorem dX0_raise_10 : decode cX0_raise 10 = .ok (.aload_n 1, 1) := by decide +kernel
theorem dX0_raise_11 : decode cX0_raise 11 = .ok (.getfield 48, 3) := by decide +kernel
theorem dX0_raise_14 : decode cX0_raise 14 = .ok (.if_icmp .ge 54, 3) := by decide +kernel
theorem dX0_raise_17 : decode cX0_raise 17 = .ok (.aload_n 0, 1) := by decide +kernel
theorem dX0_raise_18 : decode cX0_raise 18 = .ok (.getfield 21, 3) := by decide +kernel
theorem dX0_raise_21 : decode cX0_raise 21 = .ok (.iload_n 3, 1) := by decide +kernel
theorem dX0_raise_22 : decode cX0_raise 22 = .ok (.iconst 4, 1) := by decide +kernel
theorem dX0_raise_23 : decode cX0_raise 23 = .ok (.imul, 1) := by decide +kernel
theorem dX0_raise_24 : decode cX0_raise 24 = .ok (.iload_n 2, 1) := by decide +kernel
theorem dX0_raise_25 : decode cX0_raise 25 = .ok (.iadd, 1) := by decide +kernel
theorem dX0_raise_26 : decode cX0_raise 26 = .ok (.iaload, 1) := by decide +kernel
theorem dX0_raise_27 : decode cX0_raise 27 = .ok (.istore 4, 2) := by decide +kernel
theorem dX0_raise_29 : decode cX0_raise 29 = .ok (.iload_n 2, 1) := by decide +kernel
theorem dX0_raise_30 : decode cX0_raise 30 = .ok (.iconst 3, 1) := by decide +kernel
theorem dX0_raise_31 : decode cX0_raise 31 = .ok (.if_icmp .ge 21, 3) := by decide +kernel
theorem dX0_raise_34 : decode cX0_raise 34 = .ok (.aload_n 0, 1) := by decide +kernel
theorem dX0_raise_35 : decode cX0_raise 35 = .ok (.aload_n 1, 1) := by decide +kernel
theorem dX0_raise_36 : decode cX0_raise 36 = .ok (.iload_n 3, 1) := by decide +kernel
theorem dX0_raise_37 : decode cX0_raise 37 = .ok (.iload_n 2, 1) := by decide +kernel
theorem dX0_raise_38 : decode cX0_raise 38 = .ok (.invokevirtual 52, 3) := by decide +kernel
theorem dX0_raise_41 : decode cX0_raise 41 = .ok (.iload 4, 2) := by decide +kernel
theorem dX0_raise_43 : decode cX0_raise 43 = .ok (.if_icmp .le 9, 3) := by decide +kernel
theorem dX0_raise_46 : decode cX0_raise 46 = .ok (.iinc 2 1, 3) := by decide +kernel
theorem dX0_raise_49 : decode cX0_raise 49 = .ok (.goto (-20), 3) := by decide +kernel
theorem dX0_raise_52 : decode cX0_raise 52 = .ok (.aload_n 0, 1) := by decide +kernel
theorem dX0_raise_53 : decode cX0_raise 53 = .ok (.getfield 12, 3) := by decide +kernel
theorem dX0_raise_56 : decode cX0_raise 56 = .ok (.getfield 56, 3) := by decide +kernel
theorem dX0_raise_59 : decode cX0_raise 59 = .ok (.iload_n 3, 1) := by decide +kernel
theorem dX0_raise_60 : decode cX0_raise 60 = .ok (.iload_n 2, 1) := by decide +kernel
theorem dX0_raise_61 : decode cX0_raise 61 = .ok (.iastore, 1) := by decide +kernel
theorem dX0_raise_62 : decode cX0_raise 62 = .ok (.iinc 3 1, 3) := by decide +kernel
theorem dX0_raise_65 : decode cX0_raise 65 = .ok (.goto (-56), 3) := by decide +kernel
theorem dX0_raise_68 : decode cX0_raise 68 = .ok (.return_, 1) := by decide +kernel
set_option maxRecDepth 20000 in
theorem ggX0_fillCosts_X0_costWith : GoodIn wsX0_fillCosts wsX0_costWith := goodIn_r _ [10, 1, 14, 15, 11, 12, 13] (by decide +kernel) (by decide +kernel)
set_option maxRecDepth 20000 in
theorem gX0_fillCosts_X0_costWith : GoodIn wsX0_fillCosts (wsV RX0 52 RX0 yX0_costWith wsX0_costWith) := goodIn_app (goodIn_of _ (by decide +kernel)) ggX0_fillCosts_X0_costWith
theorem dX0_fillCosts_0 : decode cX0_fillCosts 0 = .ok (.iconst 0, 1) := by decide +kernel
theorem dX0_fillCosts_1 : decode cX0_fillCosts 1 = .ok (.istore_n 2, 1) := by decide +kernel
theorem dX0_fillCosts_2 : decode cX0_fillCosts 2 = .ok (.iload_n 2, 1) := by decide +kernel
theorem dX0_fillCosts_3 : decode cX0_fillCosts 3 = .ok (.iconst 4, 1) := by decide +kernel
theorem dX0_fillCosts_4 : decode cX0_fillCosts 4 = .ok (.if_icmp .ge 23, 3) := by decide +kernel
theorem dX0_fillCosts_7 : decode cX0_fillCosts 7 = .ok (.aload_n 0, 1) := by decide +kernel
theorem dX0_fillCosts_8 : decode cX0_fillCosts 8 = .ok (.getfield 21, 3) := by decide +kernel
theorem dX0_fillCosts_11 : decode cX0_fillCosts 11 = .ok (.aload_n 1, 1) := by decide +kernel
theorem dX0_fillCosts_12 : decode cX0_fillCosts 12 = .ok (.getfield 48, 3) := by decide +kernel
theorem dX0_fillCosts_15 : decode cX0_fillCosts 15 = .ok (.iconst 4, 1) := by decide +kernel
theorem dX0_fillCosts_16 : decode cX0_fillCosts 16 = .ok (.imul, 1) := by decide +kernel
theorem dX0_fillCosts_17 : decode cX0_fillCosts 17 = .ok (.iload_n 2, 1) := by decide +kernel
theorem dX0_fillCosts_18 : decode cX0_fillCosts 18 = .ok (.iadd, 1) := by decide +kernel
theorem dX0_fillCosts_19 : decode cX0_fillCosts 19 = .ok (.iconst 0, 1) := by decide +kernel
theorem dX0_fillCosts_20 : decode cX0_fillCosts 20 = .ok (.iastore, 1) := by decide +kernel
theorem dX0_fillCosts_21 : decode cX0_fillCosts 21 = .ok (.iinc 2 1, 3) := by decide +kernel
theorem dX0_fillCosts_24 : decode cX0_fillCosts 24 = .ok (.goto (-22), 3) := by decide +kernel
theorem dX0_fillCosts_27 : decode cX0_fillCosts 27 = .ok (.aload_n 1, 1) := by decide +kernel
theorem dX0_fillCosts_28 : decode cX0_fillCosts 28 = .ok (.getfield 48, 3) := by decide +kernel
theorem dX0_fillCosts_31 : decode cX0_fillCosts 31 = .ok (.iconst 1, 1) := by decide +kernel
theorem dX0_fillCosts_32 : decode cX0_fillCosts 32 = .ok (.isub, 1) := by decide +kernel
theorem dX0_fillCosts_33 : decode cX0_fillCosts 33 = .ok (.istore_n 2, 1) := by decide +kernel
theorem dX0_fillCosts_34 : decode cX0_fillCosts 34 = .ok (.iload_n 2, 1) := by decide +kernel
theorem dX0_fillCosts_35 : decode cX0_fillCosts 35 = .ok (.ifCond .lt 51, 3) := by decide +kernel
theorem dX0_fillCosts_38 : decode cX0_fillCosts 38 = .ok (.bipush 8, 2) := by decide +kernel
theorem dX0_fillCosts_40 : decode cX0_fillCosts 40 = .ok (.istore_n 3, 1) := by decide +kernel
theorem dX0_fillCosts_41 : decode cX0_fillCosts 41 = .ok (.iconst 3, 1) := by decide +kernel
theorem dX0_fillCosts_42 : decode cX0_fillCosts 42 = .ok (.istore 4, 2) := by decide +kernel
theorem dX0_fillCosts_44 : decode cX0_fillCosts 44 = .ok (.iload 4, 2) := by decide +kernel
theorem dX0_fillCosts_46 : decode cX0_fillCosts 46 = .ok (.ifCond .lt 34, 3) := by decide +kernel
theorem dX0_fillCosts_49 : decode cX0_fillCosts 49 = .ok (.iload_n 3, 1) := by decide +kernel
theorem dX0_fillCosts_50 : decode cX0_fillCosts 50 = .ok (.aload_n 0, 1) := by decide +kernel
theorem dX0_fillCosts_51 : decode cX0_fillCosts 51 = .ok (.aload_n 1, 1) := by decide +kernel
theorem dX0_fillCosts_52 : decode cX0_fillCosts 52 = .ok (.iload_n 2, 1) := by decide +kernel
theorem dX0_fillCosts_53 : decode cX0_fillCosts 53 = .ok (.iload 4, 2) := by decide +kernel
theorem dX0_fillCosts_55 : decode cX0_fillCosts 55 = .ok (.invokevirtual 52, 3) := by decide +kernel
theorem dX0_fillCosts_58 : decode cX0_fillCosts 58 = .ok (.invokestatic 59, 3) := by decide +kernel
theorem dX0_fillCosts_61 : decode cX0_fillCosts 61 = .ok (.istore_n 3, 1) := by decide +kernel
theorem dX0_fillCosts_62 : decode cX0_fillCosts 62 = .ok (.aload_n 0, 1) := by decide +kernel
theorem dX0_fillCosts_63 : decode cX0_fillCosts 63 = .ok (.getfield 21, 3) := by decide +kernel
theorem dX0_fillCosts_66 : decode cX0_fillCosts 66 = .ok (.iload_n 2, 1) := by decide +kernel
theorem dX0_fillCosts_67 : decode cX0_fillCosts 67 = .ok (.iconst 4, 1) := by decide +kernel
theorem dX0_fillCosts_68 : decode cX0_fillCosts 68 = .ok (.imul, 1) := by decide +kernel
theorem dX0_fillCosts_69 : decode cX0_fillCosts 69 = .ok (.iload 4, 2) := by decide +kernel
theorem dX0_fillCosts_71 : decode cX0_fillCosts 71 = .ok (.iadd, 1) := by decide +kernel
theorem dX0_fillCosts_72 : decode cX0_fillCosts 72 = .ok (.iload_n 3, 1) := by decide +kernel
theorem dX0_fillCosts_73 : decode cX0_fillCosts 73 = .ok (.iastore, 1) := by decide +kernel
theorem dX0_fillCosts_74 : decode cX0_fillCosts 74 = .ok (.iinc 4 (-1), 3) := by decide +kernel
theorem dX0_fillCosts_77 : decode cX0_fillCosts 77 = .ok (.goto (-33), 3) := by decide +kernel
theorem dX0_fillCosts_80 : decode cX0_fillCosts 80 = .ok (.iinc 2 (-1), 3) := by decide +kernel
theorem dX0_fillCosts_83 : decode cX0_fillCosts 83 = .ok (.goto (-49), 3) := by decide +kernel
theorem dX0_fillCosts_86 : decode cX0_fillCosts 86 = .ok (.return_, 1) := by decide +kernel
theorem dX0_costWith_0 : decode cX0_costWith 0 = .ok (.aload_n 1, 1) := by decide +kernel
theorem dX0_costWith_1 : decode cX0_costWith 1 = .ok (.getfield 56, 3) := by decide +kernel
theorem dX0_costWith_4 : decode cX0_costWith 4 = .ok (.iload_n 2, 1) := by decide +kernel
theorem dX0_costWith_5 : decode cX0_costWith 5 = .ok (.iaload, 1) := by decide +kernel
theorem dX0_costWith_6 : decode cX0_costWith 6 = .ok (.iload_n 3, 1) := by decide +kernel
theorem dX0_costWith_7 : decode cX0_costWith 7 = .ok (.if_icmp .ne 7, 3) := by decide +kernel
theorem dX0_costWith_10 : decode cX0_costWith 10 = .ok (.iconst 0, 1) := by decide +kernel
theorem dX0_costWith_11 : decode cX0_costWith 11 = .ok (.goto 4, 3) := by decide +kernel
theorem dX0_costWith_14 : decode cX0_costWith 14 = .ok (.iconst 1, 1) := by decide +kernel
theorem dX0_costWith_15 : decode cX0_costWith 15 = .ok (.istore 4, 2) := by decide +kernel
theorem dX0_costWith_17 : decode cX0_costWith 17 = .ok (.iload 4, 2) := by decide +kernel
theorem dX0_costWith_19 : decode cX0_costWith 19 = .ok (.aload_n 0, 1) := by decide +kernel
theorem dX0_costWith_20 : decode cX0_costWith 20 = .ok (.getfield 21, 3) := by decide +kernel
theorem dX0_costWith_23 : decode cX0_costWith 23 = .ok (.iload_n 2, 1) := by decide +kernel
theorem dX0_costWith_24 : decode cX0_costWith 24 = .ok (.iconst 1, 1) := by decide +kernel
theorem dX0_costWith_25 : decode cX0_costWith 25 = .ok (.iadd, 1) := by decide +kernel
theorem dX0_costWith_26 : decode cX0_costWith 26 = .ok (.iconst 4, 1) := by decide +kernel
theorem dX0_costWith_27 : decode cX0_costWith 27 = .ok (.imul, 1) := by decide +kernel
theorem dX0_costWith_28 : decode cX0_costWith 28 = .ok (.iload_n 3, 1) := by decide +kernel
theorem dX0_costWith_29 : decode cX0_costWith 29 = .ok (.iadd, 1) := by decide +kernel
theorem dX0_costWith_30 : decode cX0_costWith 30 = .ok (.iaload, 1) := by decide +kernel
theorem dX0_costWith_31 : decode cX0_costWith 31 = .ok (.iadd, 1) := by decide +kernel
theorem dX0_costWith_32 : decode cX0_costWith 32 = .ok (.ireturn, 1) := by decide +kernel
theorem dX0_mirror_0 : decode cX0_mirror 0 = .ok (.iconst 0, 1) := by decide +kernel
theorem dX0_mirror_1 : decode cX0_mirror 1 = .ok (.istore_n 2, 1) := by decide +kernel
theorem dX0_mirror_2 : decode cX0_mirror 2 = .ok (.iload_n 2, 1) := by decide +kernel
theorem dX0_mirror_3 : decode cX0_mirror 3 = .ok (.aload_n 1, 1) := by decide +kernel
theorem dX0_mirror_4 : decode cX0_mirror 4 = .ok (.getfield 48, 3) := by decide +kernel
theorem dX0_mirror_7 : decode cX0_mirror 7 = .ok (.if_icmp .ge 40, 3) := by decide +kernel
theorem dX0_mirror_10 : decode cX0_mirror 10 = .ok (.aload_n 0, 1) := by decide +kernel
theorem dX0_mirror_11 : decode cX0_mirror 11 = .ok (.getfield 12, 3) := by decide +kernel
theorem dX0_mirror_14 : decode cX0_mirror 14 = .ok (.getfield 56, 3) := by decide +kernel
theorem dX0_mirror_17 : decode cX0_mirror 17 = .ok (.iload_n 2, 1) := by decide +kernel
theorem dX0_mirror_18 : decode cX0_mirror 18 = .ok (.aload_n 1, 1) := by decide +kernel
theorem dX0_mirror_19 : decode cX0_mirror 19 = .ok (.getfield 56, 3) := by decide +kernel
theorem dX0_mirror_22 : decode cX0_mirror 22 = .ok (.iload_n 2, 1) := by decide +kernel
theorem dX0_mirror_23 : decode cX0_mirror 23 = .ok (.iaload, 1) := by decide +kernel
theorem dX0_mirror_24 : decode cX0_mirror 24 = .ok (.aload_n 1, 1) := by decide +kernel
theorem dX0_mirror_25 : decode cX0_mirror 25 = .ok (.getfield 56, 3) := by decide +kernel
theorem dX0_mirror_28 : decode cX0_mirror 28 = .ok (.aload_n 1, 1) := by decide +kernel
theorem dX0_mirror_29 : decode cX0_mirror 29 = .ok (.getfield 48, 3) := by decide +kernel
theorem dX0_mirror_32 : decode cX0_mirror 32 = .ok (.iconst 1, 1) := by decide +kernel
theorem dX0_mirror_33 : decode cX0_mirror 33 = .ok (.isub, 1) := by decide +kernel
theorem dX0_mirror_34 : decode cX0_mirror 34 = .ok (.iload_n 2, 1) := by decide +kernel
theorem dX0_mirror_35 : decode cX0_mirror 35 = .ok (.isub, 1) := by decide +kernel
theorem dX0_mirror_36 : decode cX0_mirror 36 = .ok (.iaload, 1) := by decide +kernel
theorem dX0_mirror_37 : decode cX0_mirror 37 = .ok (.invokestatic 59, 3) := by decide +kernel
theorem dX0_mirror_40 : decode cX0_mirror 40 = .ok (.iastore, 1) := by decide +kernel
theorem dX0_mirror_41 : decode cX0_mirror 41 = .ok (.iinc 2 1, 3) := by decide +kernel
theorem dX0_mirror_44 : decode cX0_mirror 44 = .ok (.goto (-42), 3) := by decide +kernel
theorem dX0_mirror_47 : decode cX0_mirror 47 = .ok (.return_, 1) := by decide +kernel
set_option maxRecDepth 20000 in
theorem ggX0_makeEven_X2_total : GoodIn wsX0_makeEven wsX2_total := goodIn_r _ [6, 7, 8, 12, 13] (by decide +kernel) (by decide +kernel)
set_option maxRecDepth 20000 in
theorem gX0_makeEven_X2_total : GoodIn wsX0_makeEven (wsV RX0 65 RX2 yX2_total wsX2_total) := goodIn_app (goodIn_of _ (by decide +kernel)) ggX0_makeEven_X2_total
theorem dX0_makeEven_0 : decode cX0_makeEven 0 = .ok (.aload_n 0, 1) := by decide +kernel
theorem dX0_makeEven_1 : decode cX0_makeEven 1 = .ok (.getfield 12, 3) := by decide +kernel
theorem dX0_makeEven_4 : decode cX0_makeEven 4 = .ok (.invokevirtual 65, 3) := by decide +kernel
theorem dX0_makeEven_7 : decode cX0_makeEven 7 = .ok (.iconst 2, 1) := by decide +kernel
theorem dX0_makeEven_8 : decode cX0_makeEven 8 = .ok (.irem, 1) := by decide +kernel
theorem dX0_makeEven_9 : decode cX0_makeEven 9 = .ok (.ifCond .ne 4, 3) := by decide +kernel
theorem dX0_makeEven_12 : decode cX0_makeEven 12 = .ok (.return_, 1) := by decide +kernel
theorem dX0_makeEven_13 : decode cX0_makeEven 13 = .ok (.iconst 0, 1) := by decide +kernel
theorem dX0_makeEven_14 : decode cX0_makeEven 14 = .ok (.istore_n 1, 1) := by decide +kernel
theorem dX0_makeEven_15 : decode cX0_makeEven 15 = .ok (.iload_n 1, 1) := by decide +kernel
theorem dX0_makeEven_16 : decode cX0_makeEven 16 = .ok (.aload_n 0, 1) := by decide +kernel
theorem dX0_makeEven_17 : decode cX0_makeEven 17 = .ok (.getfield 12, 3) := by decide +kernel
theorem dX0_makeEven_20 : decode cX0_makeEven 20 = .ok (.getfield 48, 3) := by decide +kernel
theorem dX0_makeEven_23 : decode cX0_makeEven 23 = .ok (.if_icmp .ge 49, 3) := by decide +kernel
theorem dX0_makeEven_26 : decode cX0_makeEven 26 = .ok (.aload_n 0, 1) := by decide +kernel
theorem dX0_makeEven_27 : decode cX0_makeEven 27 = .ok (.getfield 12, 3) := by decide +kernel
theorem dX0_makeEven_30 : decode cX0_makeEven 30 = .ok (.getfield 56, 3) := by decide +kernel
theorem dX0_makeEven_33 : decode cX0_makeEven 33 = .ok (.iload_n 1, 1) := by decide +kernel
theorem dX0_makeEven_34 : decode cX0_makeEven 34 = .ok (.iaload, 1) := by decide +kernel
theorem dX0_makeEven_35 : decode cX0_makeEven 35 = .ok (.ifCond .le 31, 3) := by decide +kernel
theorem dX0_makeEven_38 : decode cX0_makeEven 38 = .ok (.aload_n 0, 1) := by decide +kernel
theorem dX0_makeEven_39 : decode cX0_makeEven 39 = .ok (.getfield 12, 3) := by decide +kernel
theorem dX0_makeEven_42 : decode cX0_makeEven 42 = .ok (.getfield 56, 3) := by decide +kernel
theorem dX0_makeEven_45 : decode cX0_makeEven 45 = .ok (.iload_n 1, 1) := by decide +kernel
theorem dX0_makeEven_46 : decode cX0_makeEven 46 = .ok (.aload_n 0, 1) := by decide +kernel
theorem dX0_makeEven_47 : decode cX0_makeEven 47 = .ok (.getfield 12, 3) := by decide +kernel
theorem dX0_makeEven_50 : decode cX0_makeEven 50 = .ok (.getfield 56, 3) := by decide +kernel
theorem dX0_makeEven_53 : decode cX0_makeEven 53 = .ok (.iload_n 1, 1) := by decide +kernel
theorem dX0_makeEven_54 : decode cX0_makeEven 54 = .ok (.iaload, 1) := by decide +kernel
theorem dX0_makeEven_55 : decode cX0_makeEven 55 = .ok (.iconst 2, 1) := by decide +kernel
theorem dX0_makeEven_56 : decode cX0_makeEven 56 = .ok (.if_icmp .ne 7, 3) := by decide +kernel
theorem dX0_makeEven_59 : decode cX0_makeEven 59 = .ok (.iconst 1, 1) := by decide +kernel
theorem dX0_makeEven_60 : decode cX0_makeEven 60 = .ok (.goto 4, 3) := by decide +kernel
theorem dX0_makeEven_63 : decode cX0_makeEven 63 = .ok (.iconst 0, 1) := by decide +kernel
theorem dX0_makeEven_64 : decode cX0_makeEven 64 = .ok (.iastore, 1) := by decide +kernel
theorem dX0_makeEven_65 : decode cX0_makeEven 65 = .ok (.return_, 1) := by decide +kernel
theorem dX0_makeEven_66 : decode cX0_makeEven 66 = .ok (.iinc 1 1, 3) := by decide +kernel
theorem dX0_makeEven_69 : decode cX0_makeEven 69 = .ok (.goto (-54), 3) := by decide +kernel
theorem dX0_makeEven_72 : decode cX0_makeEven 72 = .ok (.return_, 1) := by decide +kernel
set_option maxRecDepth 20000 in
theorem ggX0_makeRound_X0_guessPeriod : GoodIn wsX0_makeRound wsX0_guessPeriod := goodIn_r _ [7, 1, 8, 9, 10, 11, 12, 13, 14, 15, 16, 6, 17, 28, 29, 30, 26, 27] (by decide +kernel) (by decide +kernel)
set_option maxRecDepth 20000 in
theorem gX0_makeRound_X0_guessPeriod : GoodIn wsX0_makeRound (wsV RX0 69 RX0 yX0_guessPeriod wsX0_guessPeriod) := goodIn_app (goodIn_of _ (by decide +kernel)) ggX0_makeRound_X0_guessPeriod
set_option maxRecDepth 20000 in
theorem ggX0_makeRound_X2_differing : GoodIn wsX0_makeRound wsX2_differing := goodIn_r _ [21, 13, 14, 26, 27] (by decide +kernel) (by decide +kernel)
set_option maxRecDepth 20000 in
theorem gX0_makeRound_X2_differing : GoodIn wsX0_makeRound (wsV RX0 41 RX2 yX2_differing wsX2_differing) := goodIn_app (goodIn_of _ (by decide +kernel)) ggX0_makeRound_X2_differing
set_option maxRecDepth 20000 in
theorem ggX0_makeRound_X2_isAheadOf : GoodIn wsX0_makeRound wsX2_isAheadOf := goodIn_r _ [25, 13, 14, 26, 27] (by decide +kernel) (by decide +kernel)
set_option maxRecDepth 20000 in
theorem gX0_makeRound_X2_isAheadOf : GoodIn wsX0_makeRound (wsV RX0 73 RX2 yX2_isAheadOf wsX2_isAheadOf) := goodIn_app (goodIn_of _ (by decide +kernel)) ggX0_makeRound_X2_isAheadOf
set_option maxRecDepth 20000 in
theorem ggX0_makeRound_X2_become : GoodIn wsX0_makeRound wsX2_become := goodIn_r _ [12, 13, 14, 26, 27] (by decide +kernel) (by decide +kernel)
set_option maxRecDepth 20000 in
theorem gX0_makeRound_X2_become : GoodIn wsX0_makeRound (wsV RX0 25 RX2 yX2_become wsX2_become) := goodIn_app (goodIn_of _ (by decide +kernel)) ggX0_makeRound_X2_become
theorem dX0_makeRound_0 : decode cX0_makeRound 0 = .ok (.bipush 9, 2) := by decide +kernel
theorem dX0_makeRound_2 : decode cX0_makeRound 2 = .ok (.istore_n 2, 1) := by decide +kernel
theorem dX0_makeRound_3 : decode cX0_makeRound 3 = .ok (.iconst 1, 1) := by decide +kernel
theorem dX0_makeRound_4 : decode cX0_makeRound 4 = .ok (.istore_n 3, 1) := by decide +kernel
theorem dX0_makeRound_5 : decode cX0_makeRound 5 = .ok (.iload_n 3, 1) := by decide +kernel
theorem dX0_makeRound_6 : decode cX0_makeRound 6 = .ok (.aload_n 1, 1) := by decide +kernel
theorem dX0_makeRound_7 : decode cX0_makeRound 7 = .ok (.getfield 48, 3) := by decide +kernel
theorem dX0_makeRound_10 : decode cX0_makeRound 10 = .ok (.if_icmp .ge 74, 3) := by decide +kernel
theorem dX0_makeRound_13 : decode cX0_makeRound 13 = .ok (.aload_n 1, 1) := by decide +kernel
theorem dX0_makeRound_14 : decode cX0_makeRound 14 = .ok (.getfield 48, 3) := by decide +kernel
theorem dX0_makeRound_17 : decode cX0_makeRound 17 = .ok (.iload_n 3, 1) := by decide +kernel
theorem dX0_makeRound_18 : decode cX0_makeRound 18 = .ok (.irem, 1) := by decide +kernel
theorem dX0_makeRound_19 : decode cX0_makeRound 19 = .ok (.ifCond .ne 59, 3) := by decide +kernel
theorem dX0_makeRound_22 : decode cX0_makeRound 22 = .ok (.aload_n 0, 1) := by decide +kernel
theorem dX0_makeRound_23 : decode cX0_makeRound 23 = .ok (.aload_n 1, 1) := by decide +kernel
theorem dX0_makeRound_24 : decode cX0_makeRound 24 = .ok (.iload_n 3, 1) := by decide +kernel
theorem dX0_makeRound_25 : decode cX0_makeRound 25 = .ok (.invokevirtual 69, 3) := by decide +kernel
theorem dX0_makeRound_28 : decode cX0_makeRound 28 = .ok (.aload_n 1, 1) := by decide +kernel
theorem dX0_makeRound_29 : decode cX0_makeRound 29 = .ok (.aload_n 0, 1) := by decide +kernel
theorem dX0_makeRound_30 : decode cX0_makeRound 30 = .ok (.getfield 18, 3) := by decide +kernel
theorem dX0_makeRound_33 : decode cX0_makeRound 33 = .ok (.invokevirtual 41, 3) := by decide +kernel
theorem dX0_makeRound_36 : decode cX0_makeRound 36 = .ok (.istore 4, 2) := by decide +kernel
theorem dX0_makeRound_38 : decode cX0_makeRound 38 = .ok (.iload 4, 2) := by decide +kernel
theorem dX0_makeRound_40 : decode cX0_makeRound 40 = .ok (.iload_n 2, 1) := by decide +kernel
theorem dX0_makeRound_41 : decode cX0_makeRound 41 = .ok (.if_icmp .lt 23, 3) := by decide +kernel
theorem dX0_makeRound_44 : decode cX0_makeRound 44 = .ok (.iload 4, 2) := by decide +kernel
theorem dX0_makeRound_46 : decode cX0_makeRound 46 = .ok (.iload_n 2, 1) := by decide +kernel
theorem dX0_makeRound_47 : decode cX0_makeRound 47 = .ok (.if_icmp .ne 31, 3) := by decide +kernel
theorem dX0_makeRound_50 : decode cX0_makeRound 50 = .ok (.aload_n 0, 1) := by decide +kernel
theorem dX0_makeRound_51 : decode cX0_makeRound 51 = .ok (.getfield 18, 3) := by decide +kernel
theorem dX0_makeRound_54 : decode cX0_makeRound 54 = .ok (.aload_n 0, 1) := by decide +kernel
theorem dX0_makeRound_55 : decode cX0_makeRound 55 = .ok (.getfield 12, 3) := by decide +kernel
theorem dX0_makeRound_58 : decode cX0_makeRound 58 = .ok (.invokevirtual 73, 3) := by decide +kernel
theorem dX0_makeRound_61 : decode cX0_makeRound 61 = .ok (.ifCond .eq 17, 3) := by decide +kernel
theorem dX0_makeRound_64 : decode cX0_makeRound 64 = .ok (.iload 4, 2) := by decide +kernel
theorem dX0_makeRound_66 : decode cX0_makeRound 66 = .ok (.istore_n 2, 1) := by decide +kernel
theorem dX0_makeRound_67 : decode cX0_makeRound 67 = .ok (.aload_n 0, 1) := by decide +kernel
theorem dX0_makeRound_68 : decode cX0_makeRound 68 = .ok (.getfield 12, 3) := by decide +kernel
theorem dX0_makeRound_71 : decode cX0_makeRound 71 = .ok (.aload_n 0, 1) := by decide +kernel
theorem dX0_makeRound_72 : decode cX0_makeRound 72 = .ok (.getfield 18, 3) := by decide +kernel
theorem dX0_makeRound_75 : decode cX0_makeRound 75 = .ok (.invokevirtual 25, 3) := by decide +kernel
theorem dX0_makeRound_78 : decode cX0_makeRound 78 = .ok (.iinc 3 1, 3) := by decide +kernel
theorem dX0_makeRound_81 : decode cX0_makeRound 81 = .ok (.goto (-76), 3) := by decide +kernel
theorem dX0_makeRound_84 : decode cX0_makeRound 84 = .ok (.return_, 1) := by decide +kernel
set_option maxRecDepth 20000 in
theorem ggX0_guessPeriod_X2_become : GoodIn wsX0_guessPeriod wsX2_become := goodIn_r _ [6, 7, 8, 16, 17] (by decide +kernel) (by decide +kernel)
set_option maxRecDepth 20000 in
theorem gX0_guessPeriod_X2_become : GoodIn wsX0_guessPeriod (wsV RX0 25 RX2 yX2_become wsX2_become) := goodIn_app (goodIn_of _ (by decide +kernel)) ggX0_guessPeriod_X2_become
set_option maxRecDepth 20000 in
theorem ggX0_guessPeriod_X0_commonest : GoodIn wsX0_guessPeriod wsX0_commonest := goodIn_r _ [12, 16, 17] (by decide +kernel) (by decide +kernel)
set_option maxRecDepth 20000 in
theorem gX0_guessPeriod_X0_commonest : GoodIn wsX0_guessPeriod (va_wsS RX0 77 yX0_commonest wsX0_commonest) := goodIn_app (goodIn_of _ (by decide +kernel)) ggX0_guessPeriod_X0_commonest
theorem dX0_guessPeriod_0 : decode cX0_guessPeriod 0 = .ok (.aload_n 0, 1) := by decide +kernel
theorem dX0_guessPeriod_1 : decode cX0_guessPeriod 1 = .ok (.getfield 18, 3) := by decide +kernel
theorem dX0_guessPeriod_4 : decode cX0_guessPeriod 4 = .ok (.aload_n 1, 1) := by decide +kernel
theorem dX0_guessPeriod_5 : decode cX0_guessPeriod 5 = .ok (.invokevirtual 25, 3) := by decide +kernel
theorem dX0_guessPeriod_8 : decode cX0_guessPeriod 8 = .ok (.iconst 0, 1) := by decide +kernel
theorem dX0_guessPeriod_9 : decode cX0_guessPeriod 9 = .ok (.istore_n 3, 1) := by decide +kernel
theorem dX0_guessPeriod_10 : decode cX0_guessPeriod 10 = .ok (.iload_n 3, 1) := by decide +kernel
theorem dX0_guessPeriod_11 : decode cX0_guessPeriod 11 = .ok (.aload_n 1, 1) := by decide +kernel
theorem dX0_guessPeriod_12 : decode cX0_guessPeriod 12 = .ok (.getfield 48, 3) := by decide +kernel
theorem dX0_guessPeriod_15 : decode cX0_guessPeriod 15 = .ok (.if_icmp .ge 43, 3) := by decide +kernel
theorem dX0_guessPeriod_18 : decode cX0_guessPeriod 18 = .ok (.aload_n 0, 1) := by decide +kernel
theorem dX0_guessPeriod_19 : decode cX0_guessPeriod 19 = .ok (.getfield 18, 3) := by decide +kernel
theorem dX0_guessPeriod_22 : decode cX0_guessPeriod 22 = .ok (.getfield 56, 3) := by decide +kernel
theorem dX0_guessPeriod_25 : decode cX0_guessPeriod 25 = .ok (.iload_n 3, 1) := by decide +kernel
theorem dX0_guessPeriod_26 : decode cX0_guessPeriod 26 = .ok (.iload_n 3, 1) := by decide +kernel
theorem dX0_guessPeriod_27 : decode cX0_guessPeriod 27 = .ok (.iload_n 2, 1) := by decide +kernel
theorem dX0_guessPeriod_28 : decode cX0_guessPeriod 28 = .ok (.if_icmp .ge 12, 3) := by decide +kernel
theorem dX0_guessPeriod_31 : decode cX0_guessPeriod 31 = .ok (.aload_n 1, 1) := by decide +kernel
theorem dX0_guessPeriod_32 : decode cX0_guessPeriod 32 = .ok (.iload_n 3, 1) := by decide +kernel
theorem dX0_guessPeriod_33 : decode cX0_guessPeriod 33 = .ok (.iload_n 2, 1) := by decide +kernel
theorem dX0_guessPeriod_34 : decode cX0_guessPeriod 34 = .ok (.invokestatic 77, 3) := by decide +kernel
theorem dX0_guessPeriod_37 : decode cX0_guessPeriod 37 = .ok (.goto 14, 3) := by decide +kernel
theorem dX0_guessPeriod_40 : decode cX0_guessPeriod 40 = .ok (.aload_n 0, 1) := by decide +kernel
theorem dX0_guessPeriod_41 : decode cX0_guessPeriod 41 = .ok (.getfield 18, 3) := by decide +kernel
theorem dX0_guessPeriod_44 : decode cX0_guessPeriod 44 = .ok (.getfield 56, 3) := by decide +kernel
theorem dX0_guessPeriod_47 : decode cX0_guessPeriod 47 = .ok (.iload_n 3, 1) := by decide +kernel
theorem dX0_guessPeriod_48 : decode cX0_guessPeriod 48 = .ok (.iload_n 2, 1) := by decide +kernel
theorem dX0_guessPeriod_49 : decode cX0_guessPeriod 49 = .ok (.isub, 1) := by decide +kernel
theorem dX0_guessPeriod_50 : decode cX0_guessPeriod 50 = .ok (.iaload, 1) := by decide +kernel
theorem dX0_guessPeriod_51 : decode cX0_guessPeriod 51 = .ok (.iastore, 1) := by decide +kernel
theorem dX0_guessPeriod_52 : decode cX0_guessPeriod 52 = .ok (.iinc 3 1, 3) := by decide +kernel
theorem dX0_guessPeriod_55 : decode cX0_guessPeriod 55 = .ok (.goto (-45), 3) := by decide +kernel
theorem dX0_guessPeriod_58 : decode cX0_guessPeriod 58 = .ok (.return_, 1) := by decide +kernel
theorem dX0_commonest_0 : decode cX0_commonest 0 = .ok (.iconst 0, 1) := by decide +kernel
theorem dX0_commonest_1 : decode cX0_commonest 1 = .ok (.istore_n 3, 1) := by decide +kernel
theorem dX0_commonest_2 : decode cX0_commonest 2 = .ok (.iconst 0, 1) := by decide +kernel
theorem dX0_commonest_3 : decode cX0_commonest 3 = .ok (.istore 4, 2) := by decide +kernel
theorem dX0_commonest_5 : decode cX0_commonest 5 = .ok (.iconst 0, 1) := by decide +kernel
theorem dX0_commonest_6 : decode cX0_commonest 6 = .ok (.istore 5, 2) := by decide +kernel
theorem dX0_commonest_8 : decode cX0_commonest 8 = .ok (.iload 5, 2) := by decide +kernel
theorem dX0_commonest_10 : decode cX0_commonest 10 = .ok (.iconst 4, 1) := by decide +kernel
theorem dX0_commonest_11 : decode cX0_commonest 11 = .ok (.if_icmp .ge 74, 3) := by decide +kernel
theorem dX0_commonest_14 : decode cX0_commonest 14 = .ok (.iconst 0, 1) := by decide +kernel
theorem dX0_commonest_15 : decode cX0_commonest 15 = .ok (.istore 6, 2) := by decide +kernel
theorem dX0_commonest_17 : decode cX0_commonest 17 = .ok (.iconst 0, 1) := by decide +kernel
theorem dX0_commonest_18 : decode cX0_commonest 18 = .ok (.istore 7, 2) := by decide +kernel
theorem dX0_commonest_20 : decode cX0_commonest 20 = .ok (.iload 7, 2) := by decide +kernel
theorem dX0_commonest_22 : decode cX0_commonest 22 = .ok (.bipush 8, 2) := by decide +kernel
theorem dX0_commonest_24 : decode cX0_commonest 24 = .ok (.if_icmp .ge 41, 3) := by decide +kernel
theorem dX0_commonest_27 : decode cX0_commonest 27 = .ok (.iload_n 1, 1) := by decide +kernel
theorem dX0_commonest_28 : decode cX0_commonest 28 = .ok (.iload 7, 2) := by decide +kernel
theorem dX0_commonest_30 : decode cX0_commonest 30 = .ok (.iload_n 2, 1) := by decide +kernel
theorem dX0_commonest_31 : decode cX0_commonest 31 = .ok (.imul, 1) := by decide +kernel
theorem dX0_commonest_32 : decode cX0_commonest 32 = .ok (.iadd, 1) := by decide +kernel
theorem dX0_commonest_33 : decode cX0_commonest 33 = .ok (.istore 8, 2) := by decide +kernel
theorem dX0_commonest_35 : decode cX0_commonest 35 = .ok (.iload 8, 2) := by decide +kernel
theorem dX0_commonest_37 : decode cX0_commonest 37 = .ok (.aload_n 0, 1) := by decide +kernel
theorem dX0_commonest_38 : decode cX0_commonest 38 = .ok (.getfield 48, 3) := by decide +kernel
theorem dX0_commonest_41 : decode cX0_commonest 41 = .ok (.if_icmp .ge 18, 3) := by decide +kernel
theorem dX0_commonest_44 : decode cX0_commonest 44 = .ok (.aload_n 0, 1) := by decide +kernel
theorem dX0_commonest_45 : decode cX0_commonest 45 = .ok (.getfield 56, 3) := by decide +kernel
theorem dX0_commonest_48 : decode cX0_commonest 48 = .ok (.iload 8, 2) := by decide +kernel
theorem dX0_commonest_50 : decode cX0_commonest 50 = .ok (.iaload, 1) := by decide +kernel
theorem dX0_commonest_51 : decode cX0_commonest 51 = .ok (.iload 5, 2) := by decide +kernel
theorem dX0_commonest_53 : decode cX0_commonest 53 = .ok (.if_icmp .ne 6, 3) := by decide +kernel
theorem dX0_commonest_56 : decode cX0_commonest 56 = .ok (.iinc 6 1, 3) := by decide +kernel
theorem dX0_commonest_59 : decode cX0_commonest 59 = .ok (.iinc 7 1, 3) := by decide +kernel
theorem dX0_commonest_62 : decode cX0_commonest 62 = .ok (.goto (-42), 3) := by decide +kernel
theorem dX0_commonest_65 : decode cX0_commonest 65 = .ok (.iload 6, 2) := by decide +kernel
theorem dX0_commonest_67 : decode cX0_commonest 67 = .ok (.iload 4, 2) := by decide +kernel
theorem dX0_commonest_69 : decode cX0_commonest 69 = .ok (.if_icmp .le 10, 3) := by decide +kernel
theorem dX0_commonest_72 : decode cX0_commonest 72 = .ok (.iload 6, 2) := by decide +kernel
theorem dX0_commonest_74 : decode cX0_commonest 74 = .ok (.istore 4, 2) := by decide +kernel
theorem dX0_commonest_76 : decode cX0_commonest 76 = .ok (.iload 5, 2) := by decide +kernel
theorem dX0_commonest_78 : decode cX0_commonest 78 = .ok (.istore_n 3, 1) := by decide +kernel
theorem dX0_commonest_79 : decode cX0_commonest 79 = .ok (.iinc 5 1, 3) := by decide +kernel
theorem dX0_commonest_82 : decode cX0_commonest 82 = .ok (.goto (-74), 3) := by decide +kernel
theorem dX0_commonest_85 : decode cX0_commonest 85 = .ok (.iload_n 3, 1) := by decide +kernel
theorem dX0_commonest_86 : decode cX0_commonest 86 = .ok (.ireturn, 1) := by decide +kernel
