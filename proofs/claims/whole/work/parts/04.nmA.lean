theorem dX1_init_0 : decode cX1_init 0 = .ok (.aload_n 0, 1) := by decide +kernel
theorem dX1_init_1 : decode cX1_init 1 = .ok (.invokespecial 3, 3) := by decide +kernel
theorem dX1_init_4 : decode cX1_init 4 = .ok (.aload_n 0, 1) := by decide +kernel
theorem dX1_init_5 : decode cX1_init 5 = .ok (.bipush 6, 2) := by decide +kernel
theorem dX1_init_7 : decode cX1_init 7 = .ok (.newarray .int, 2) := by decide +kernel
theorem dX1_init_9 : decode cX1_init 9 = .ok (.putfield 9, 3) := by decide +kernel
theorem dX1_init_12 : decode cX1_init 12 = .ok (.return_, 1) := by decide +kernel
theorem dX1_joined_0 : decode cX1_joined 0 = .ok (.aload_n 0, 1) := by decide +kernel
theorem dX1_joined_1 : decode cX1_joined 1 = .ok (.getfield 9, 3) := by decide +kernel
theorem dX1_joined_4 : decode cX1_joined 4 = .ok (.iload_n 1, 1) := by decide +kernel
theorem dX1_joined_5 : decode cX1_joined 5 = .ok (.iaload, 1) := by decide +kernel
theorem dX1_joined_6 : decode cX1_joined 6 = .ok (.iload_n 2, 1) := by decide +kernel
theorem dX1_joined_7 : decode cX1_joined 7 = .ok (.ishr, 1) := by decide +kernel
theorem dX1_joined_8 : decode cX1_joined 8 = .ok (.iconst 1, 1) := by decide +kernel
theorem dX1_joined_9 : decode cX1_joined 9 = .ok (.iand, 1) := by decide +kernel
theorem dX1_joined_10 : decode cX1_joined 10 = .ok (.ireturn, 1) := by decide +kernel
theorem dX1_join_0 : decode cX1_join 0 = .ok (.iload_n 3, 1) := by decide +kernel
theorem dX1_join_1 : decode cX1_join 1 = .ok (.ifCond .eq 30, 3) := by decide +kernel
theorem dX1_join_4 : decode cX1_join 4 = .ok (.aload_n 0, 1) := by decide +kernel
theorem dX1_join_5 : decode cX1_join 5 = .ok (.getfield 9, 3) := by decide +kernel
theorem dX1_join_8 : decode cX1_join 8 = .ok (.iload_n 1, 1) := by decide +kernel
theorem dX1_join_9 : decode cX1_join 9 = .ok (.dup2, 1) := by decide +kernel
theorem dX1_join_10 : decode cX1_join 10 = .ok (.iaload, 1) := by decide +kernel
theorem dX1_join_11 : decode cX1_join 11 = .ok (.iconst 1, 1) := by decide +kernel
theorem dX1_join_12 : decode cX1_join 12 = .ok (.iload_n 2, 1) := by decide +kernel
theorem dX1_join_13 : decode cX1_join 13 = .ok (.ishl, 1) := by decide +kernel
theorem dX1_join_14 : decode cX1_join 14 = .ok (.ior, 1) := by decide +kernel
theorem dX1_join_15 : decode cX1_join 15 = .ok (.iastore, 1) := by decide +kernel
theorem dX1_join_16 : decode cX1_join 16 = .ok (.aload_n 0, 1) := by decide +kernel
theorem dX1_join_17 : decode cX1_join 17 = .ok (.getfield 9, 3) := by decide +kernel
theorem dX1_join_20 : decode cX1_join 20 = .ok (.iload_n 2, 1) := by decide +kernel
theorem dX1_join_21 : decode cX1_join 21 = .ok (.dup2, 1) := by decide +kernel
theorem dX1_join_22 : decode cX1_join 22 = .ok (.iaload, 1) := by decide +kernel
theorem dX1_join_23 : decode cX1_join 23 = .ok (.iconst 1, 1) := by decide +kernel
theorem dX1_join_24 : decode cX1_join 24 = .ok (.iload_n 1, 1) := by decide +kernel
theorem dX1_join_25 : decode cX1_join 25 = .ok (.ishl, 1) := by decide +kernel
theorem dX1_join_26 : decode cX1_join 26 = .ok (.ior, 1) := by decide +kernel
theorem dX1_join_27 : decode cX1_join 27 = .ok (.iastore, 1) := by decide +kernel
theorem dX1_join_28 : decode cX1_join 28 = .ok (.goto 31, 3) := by decide +kernel
theorem dX1_join_31 : decode cX1_join 31 = .ok (.aload_n 0, 1) := by decide +kernel
theorem dX1_join_32 : decode cX1_join 32 = .ok (.getfield 9, 3) := by decide +kernel
theorem dX1_join_35 : decode cX1_join 35 = .ok (.iload_n 1, 1) := by decide +kernel
theorem dX1_join_36 : decode cX1_join 36 = .ok (.dup2, 1) := by decide +kernel
theorem dX1_join_37 : decode cX1_join 37 = .ok (.iaload, 1) := by decide +kernel
theorem dX1_join_38 : decode cX1_join 38 = .ok (.iconst 1, 1) := by decide +kernel
theorem dX1_join_39 : decode cX1_join 39 = .ok (.iload_n 2, 1) := by decide +kernel
theorem dX1_join_40 : decode cX1_join 40 = .ok (.ishl, 1) := by decide +kernel
theorem dX1_join_41 : decode cX1_join 41 = .ok (.iconst (-1), 1) := by decide +kernel
theorem dX1_join_42 : decode cX1_join 42 = .ok (.ixor, 1) := by decide +kernel
theorem dX1_join_43 : decode cX1_join 43 = .ok (.iand, 1) := by decide +kernel
theorem dX1_join_44 : decode cX1_join 44 = .ok (.iastore, 1) := by decide +kernel
theorem dX1_join_45 : decode cX1_join 45 = .ok (.aload_n 0, 1) := by decide +kernel
theorem dX1_join_46 : decode cX1_join 46 = .ok (.getfield 9, 3) := by decide +kernel
theorem dX1_join_49 : decode cX1_join 49 = .ok (.iload_n 2, 1) := by decide +kernel
theorem dX1_join_50 : decode cX1_join 50 = .ok (.dup2, 1) := by decide +kernel
theorem dX1_join_51 : decode cX1_join 51 = .ok (.iaload, 1) := by decide +kernel
theorem dX1_join_52 : decode cX1_join 52 = .ok (.iconst 1, 1) := by decide +kernel
theorem dX1_join_53 : decode cX1_join 53 = .ok (.iload_n 1, 1) := by decide +kernel
theorem dX1_join_54 : decode cX1_join 54 = .ok (.ishl, 1) := by decide +kernel
theorem dX1_join_55 : decode cX1_join 55 = .ok (.iconst (-1), 1) := by decide +kernel
theorem dX1_join_56 : decode cX1_join 56 = .ok (.ixor, 1) := by decide +kernel
theorem dX1_join_57 : decode cX1_join 57 = .ok (.iand, 1) := by decide +kernel
theorem dX1_join_58 : decode cX1_join 58 = .ok (.iastore, 1) := by decide +kernel
theorem dX1_join_59 : decode cX1_join 59 = .ok (.return_, 1) := by decide +kernel
set_option maxRecDepth 20000 in
theorem ggX1_lines_X1_likeLines : GoodIn wsX1_lines wsX1_likeLines := goodIn_r _ [5, 6, 7, 8, 4, 9, 10, 11, 12, 13, 14, 15, 16, 17] (by decide +kernel) (by decide +kernel)
set_option maxRecDepth 20000 in
theorem gX1_lines_X1_likeLines : GoodIn wsX1_lines (wsV RX1 15 RX1 yX1_likeLines wsX1_likeLines) := goodIn_app (goodIn_of _ (by decide +kernel)) ggX1_lines_X1_likeLines
theorem dX1_lines_0 : decode cX1_lines 0 = .ok (.aload_n 0, 1) := by decide +kernel
theorem dX1_lines_1 : decode cX1_lines 1 = .ok (.bipush 63, 2) := by decide +kernel
theorem dX1_lines_3 : decode cX1_lines 3 = .ok (.iconst 0, 1) := by decide +kernel
theorem dX1_lines_4 : decode cX1_lines 4 = .ok (.invokevirtual 15, 3) := by decide +kernel
theorem dX1_lines_7 : decode cX1_lines 7 = .ok (.ireturn, 1) := by decide +kernel
theorem dX1_alikeTo_0 : decode cX1_alikeTo 0 = .ok (.iload_n 1, 1) := by decide +kernel
theorem dX1_alikeTo_1 : decode cX1_alikeTo 1 = .ok (.iload_n 0, 1) := by decide +kernel
theorem dX1_alikeTo_2 : decode cX1_alikeTo 2 = .ok (.ishr, 1) := by decide +kernel
theorem dX1_alikeTo_3 : decode cX1_alikeTo 3 = .ok (.iconst 1, 1) := by decide +kernel
theorem dX1_alikeTo_4 : decode cX1_alikeTo 4 = .ok (.iand, 1) := by decide +kernel
theorem dX1_alikeTo_5 : decode cX1_alikeTo 5 = .ok (.iconst 1, 1) := by decide +kernel
theorem dX1_alikeTo_6 : decode cX1_alikeTo 6 = .ok (.if_icmp .ne 7, 3) := by decide +kernel
theorem dX1_alikeTo_9 : decode cX1_alikeTo 9 = .ok (.iload_n 1, 1) := by decide +kernel
theorem dX1_alikeTo_10 : decode cX1_alikeTo 10 = .ok (.goto 6, 3) := by decide +kernel
theorem dX1_alikeTo_13 : decode cX1_alikeTo 13 = .ok (.iload_n 1, 1) := by decide +kernel
theorem dX1_alikeTo_14 : decode cX1_alikeTo 14 = .ok (.iconst (-1), 1) := by decide +kernel
theorem dX1_alikeTo_15 : decode cX1_alikeTo 15 = .ok (.ixor, 1) := by decide +kernel
theorem dX1_alikeTo_16 : decode cX1_alikeTo 16 = .ok (.ireturn, 1) := by decide +kernel
set_option maxRecDepth 20000 in
theorem ggX1_likeLines_X1_alikeTo : GoodIn wsX1_likeLines wsX1_alikeTo := goodIn_r _ [5] (by decide +kernel) (by decide +kernel)
set_option maxRecDepth 20000 in
theorem gX1_likeLines_X1_alikeTo : GoodIn wsX1_likeLines (va_wsS RX1 19 yX1_alikeTo wsX1_alikeTo) := goodIn_app (goodIn_of _ (by decide +kernel)) ggX1_likeLines_X1_alikeTo
set_option maxRecDepth 20000 in
theorem ggX1_likeLines_J6_bitCount_0f7a4 : GoodIn wsX1_likeLines wsJ6_bitCount_0f7a4 := goodIn_r _ [9, 10, 11, 12] (by decide +kernel) (by decide +kernel)
set_option maxRecDepth 20000 in
theorem gX1_likeLines_J6_bitCount_0f7a4 : GoodIn wsX1_likeLines (va_wsS RX1 22 yJ6_bitCount_0f7a4 wsJ6_bitCount_0f7a4) := goodIn_app (goodIn_of _ (by decide +kernel)) ggX1_likeLines_J6_bitCount_0f7a4
theorem dX1_likeLines_0 : decode cX1_likeLines 0 = .ok (.iconst 0, 1) := by decide +kernel
theorem dX1_likeLines_1 : decode cX1_likeLines 1 = .ok (.istore_n 3, 1) := by decide +kernel
theorem dX1_likeLines_2 : decode cX1_likeLines 2 = .ok (.iconst 0, 1) := by decide +kernel
theorem dX1_likeLines_3 : decode cX1_likeLines 3 = .ok (.istore 4, 2) := by decide +kernel
theorem dX1_likeLines_5 : decode cX1_likeLines 5 = .ok (.iload 4, 2) := by decide +kernel
theorem dX1_likeLines_7 : decode cX1_likeLines 7 = .ok (.bipush 6, 2) := by decide +kernel
theorem dX1_likeLines_9 : decode cX1_likeLines 9 = .ok (.if_icmp .ge 41, 3) := by decide +kernel
theorem dX1_likeLines_12 : decode cX1_likeLines 12 = .ok (.iload_n 1, 1) := by decide +kernel
theorem dX1_likeLines_13 : decode cX1_likeLines 13 = .ok (.iload 4, 2) := by decide +kernel
theorem dX1_likeLines_15 : decode cX1_likeLines 15 = .ok (.ishr, 1) := by decide +kernel
theorem dX1_likeLines_16 : decode cX1_likeLines 16 = .ok (.iconst 1, 1) := by decide +kernel
theorem dX1_likeLines_17 : decode cX1_likeLines 17 = .ok (.iand, 1) := by decide +kernel
theorem dX1_likeLines_18 : decode cX1_likeLines 18 = .ok (.iconst 1, 1) := by decide +kernel
theorem dX1_likeLines_19 : decode cX1_likeLines 19 = .ok (.if_icmp .ne 25, 3) := by decide +kernel
theorem dX1_likeLines_22 : decode cX1_likeLines 22 = .ok (.iload_n 3, 1) := by decide +kernel
theorem dX1_likeLines_23 : decode cX1_likeLines 23 = .ok (.aload_n 0, 1) := by decide +kernel
theorem dX1_likeLines_24 : decode cX1_likeLines 24 = .ok (.getfield 9, 3) := by decide +kernel
theorem dX1_likeLines_27 : decode cX1_likeLines 27 = .ok (.iload 4, 2) := by decide +kernel
theorem dX1_likeLines_29 : decode cX1_likeLines 29 = .ok (.iaload, 1) := by decide +kernel
theorem dX1_likeLines_30 : decode cX1_likeLines 30 = .ok (.iload_n 1, 1) := by decide +kernel
theorem dX1_likeLines_31 : decode cX1_likeLines 31 = .ok (.iand, 1) := by decide +kernel
theorem dX1_likeLines_32 : decode cX1_likeLines 32 = .ok (.iload 4, 2) := by decide +kernel
theorem dX1_likeLines_34 : decode cX1_likeLines 34 = .ok (.iload_n 2, 1) := by decide +kernel
theorem dX1_likeLines_35 : decode cX1_likeLines 35 = .ok (.invokestatic 19, 3) := by decide +kernel
theorem dX1_likeLines_38 : decode cX1_likeLines 38 = .ok (.iand, 1) := by decide +kernel
theorem dX1_likeLines_39 : decode cX1_likeLines 39 = .ok (.invokestatic 22, 3) := by decide +kernel
theorem dX1_likeLines_42 : decode cX1_likeLines 42 = .ok (.iadd, 1) := by decide +kernel
theorem dX1_likeLines_43 : decode cX1_likeLines 43 = .ok (.istore_n 3, 1) := by decide +kernel
theorem dX1_likeLines_44 : decode cX1_likeLines 44 = .ok (.iinc 4 1, 3) := by decide +kernel
theorem dX1_likeLines_47 : decode cX1_likeLines 47 = .ok (.goto (-42), 3) := by decide +kernel
theorem dX1_likeLines_50 : decode cX1_likeLines 50 = .ok (.iload_n 3, 1) := by decide +kernel
theorem dX1_likeLines_51 : decode cX1_likeLines 51 = .ok (.iconst 2, 1) := by decide +kernel
theorem dX1_likeLines_52 : decode cX1_likeLines 52 = .ok (.idiv, 1) := by decide +kernel
theorem dX1_likeLines_53 : decode cX1_likeLines 53 = .ok (.ireturn, 1) := by decide +kernel
set_option maxRecDepth 20000 in
theorem ggX1_cutLikeLines_X1_alikeTo : GoodIn wsX1_cutLikeLines wsX1_alikeTo := goodIn_r _ [5] (by decide +kernel) (by decide +kernel)
set_option maxRecDepth 20000 in
theorem gX1_cutLikeLines_X1_alikeTo : GoodIn wsX1_cutLikeLines (va_wsS RX1 19 yX1_alikeTo wsX1_alikeTo) := goodIn_app (goodIn_of _ (by decide +kernel)) ggX1_cutLikeLines_X1_alikeTo
theorem dX1_cutLikeLines_0 : decode cX1_cutLikeLines 0 = .ok (.iconst 0, 1) := by decide +kernel
theorem dX1_cutLikeLines_1 : decode cX1_cutLikeLines 1 = .ok (.istore_n 2, 1) := by decide +kernel
theorem dX1_cutLikeLines_2 : decode cX1_cutLikeLines 2 = .ok (.iload_n 2, 1) := by decide +kernel
theorem dX1_cutLikeLines_3 : decode cX1_cutLikeLines 3 = .ok (.bipush 6, 2) := by decide +kernel
theorem dX1_cutLikeLines_5 : decode cX1_cutLikeLines 5 = .ok (.if_icmp .ge 25, 3) := by decide +kernel
theorem dX1_cutLikeLines_8 : decode cX1_cutLikeLines 8 = .ok (.aload_n 0, 1) := by decide +kernel
theorem dX1_cutLikeLines_9 : decode cX1_cutLikeLines 9 = .ok (.getfield 9, 3) := by decide +kernel
theorem dX1_cutLikeLines_12 : decode cX1_cutLikeLines 12 = .ok (.iload_n 2, 1) := by decide +kernel
theorem dX1_cutLikeLines_13 : decode cX1_cutLikeLines 13 = .ok (.dup2, 1) := by decide +kernel
theorem dX1_cutLikeLines_14 : decode cX1_cutLikeLines 14 = .ok (.iaload, 1) := by decide +kernel
theorem dX1_cutLikeLines_15 : decode cX1_cutLikeLines 15 = .ok (.iload_n 2, 1) := by decide +kernel
theorem dX1_cutLikeLines_16 : decode cX1_cutLikeLines 16 = .ok (.iload_n 1, 1) := by decide +kernel
theorem dX1_cutLikeLines_17 : decode cX1_cutLikeLines 17 = .ok (.invokestatic 19, 3) := by decide +kernel
theorem dX1_cutLikeLines_20 : decode cX1_cutLikeLines 20 = .ok (.iconst (-1), 1) := by decide +kernel
theorem dX1_cutLikeLines_21 : decode cX1_cutLikeLines 21 = .ok (.ixor, 1) := by decide +kernel
theorem dX1_cutLikeLines_22 : decode cX1_cutLikeLines 22 = .ok (.iand, 1) := by decide +kernel
theorem dX1_cutLikeLines_23 : decode cX1_cutLikeLines 23 = .ok (.iastore, 1) := by decide +kernel
theorem dX1_cutLikeLines_24 : decode cX1_cutLikeLines 24 = .ok (.iinc 2 1, 3) := by decide +kernel
theorem dX1_cutLikeLines_27 : decode cX1_cutLikeLines 27 = .ok (.goto (-25), 3) := by decide +kernel
theorem dX1_cutLikeLines_30 : decode cX1_cutLikeLines 30 = .ok (.return_, 1) := by decide +kernel
set_option maxRecDepth 20000 in
theorem ggX1_bestColouring_X1_bestColouringOf : GoodIn wsX1_bestColouring wsX1_bestColouringOf := goodIn_r _ [5, 6, 7, 8, 4, 9, 10, 11, 12, 13, 14, 15, 16, 17, 18, 19, 20, 21] (by decide +kernel) (by decide +kernel)
set_option maxRecDepth 20000 in
theorem gX1_bestColouring_X1_bestColouringOf : GoodIn wsX1_bestColouring (wsV RX1 28 RX1 yX1_bestColouringOf wsX1_bestColouringOf) := goodIn_app (goodIn_of _ (by decide +kernel)) ggX1_bestColouring_X1_bestColouringOf
theorem dX1_bestColouring_0 : decode cX1_bestColouring 0 = .ok (.aload_n 0, 1) := by decide +kernel
theorem dX1_bestColouring_1 : decode cX1_bestColouring 1 = .ok (.bipush 63, 2) := by decide +kernel
theorem dX1_bestColouring_3 : decode cX1_bestColouring 3 = .ok (.invokevirtual 28, 3) := by decide +kernel
theorem dX1_bestColouring_6 : decode cX1_bestColouring 6 = .ok (.ireturn, 1) := by decide +kernel
set_option maxRecDepth 20000 in
theorem ggX1_bestColouringOf_X1_likeLines : GoodIn wsX1_bestColouringOf wsX1_likeLines := goodIn_r _ [5, 6, 7, 8, 4, 9, 10, 11, 12, 13, 14, 15, 16, 17] (by decide +kernel) (by decide +kernel)
set_option maxRecDepth 20000 in
theorem gX1_bestColouringOf_X1_likeLines : GoodIn wsX1_bestColouringOf (wsV RX1 15 RX1 yX1_likeLines wsX1_likeLines) := goodIn_app (goodIn_of _ (by decide +kernel)) ggX1_bestColouringOf_X1_likeLines
theorem dX1_bestColouringOf_0 : decode cX1_bestColouringOf 0 = .ok (.iconst 0, 1) := by decide +kernel
theorem dX1_bestColouringOf_1 : decode cX1_bestColouringOf 1 = .ok (.istore_n 2, 1) := by decide +kernel
theorem dX1_bestColouringOf_2 : decode cX1_bestColouringOf 2 = .ok (.aload_n 0, 1) := by decide +kernel
theorem dX1_bestColouringOf_3 : decode cX1_bestColouringOf 3 = .ok (.iload_n 1, 1) := by decide +kernel
theorem dX1_bestColouringOf_4 : decode cX1_bestColouringOf 4 = .ok (.iconst 0, 1) := by decide +kernel
theorem dX1_bestColouringOf_5 : decode cX1_bestColouringOf 5 = .ok (.invokevirtual 15, 3) := by decide +kernel
theorem dX1_bestColouringOf_8 : decode cX1_bestColouringOf 8 = .ok (.istore_n 3, 1) := by decide +kernel
theorem dX1_bestColouringOf_9 : decode cX1_bestColouringOf 9 = .ok (.iconst 2, 1) := by decide +kernel
theorem dX1_bestColouringOf_10 : decode cX1_bestColouringOf 10 = .ok (.istore 4, 2) := by decide +kernel
theorem dX1_bestColouringOf_12 : decode cX1_bestColouringOf 12 = .ok (.iload 4, 2) := by decide +kernel
theorem dX1_bestColouringOf_14 : decode cX1_bestColouringOf 14 = .ok (.bipush 63, 2) := by decide +kernel
theorem dX1_bestColouringOf_16 : decode cX1_bestColouringOf 16 = .ok (.if_icmp .gt 30, 3) := by decide +kernel
theorem dX1_bestColouringOf_19 : decode cX1_bestColouringOf 19 = .ok (.aload_n 0, 1) := by decide +kernel
theorem dX1_bestColouringOf_20 : decode cX1_bestColouringOf 20 = .ok (.iload_n 1, 1) := by decide +kernel
theorem dX1_bestColouringOf_21 : decode cX1_bestColouringOf 21 = .ok (.iload 4, 2) := by decide +kernel
theorem dX1_bestColouringOf_23 : decode cX1_bestColouringOf 23 = .ok (.invokevirtual 15, 3) := by decide +kernel
theorem dX1_bestColouringOf_26 : decode cX1_bestColouringOf 26 = .ok (.istore 5, 2) := by decide +kernel
theorem dX1_bestColouringOf_28 : decode cX1_bestColouringOf 28 = .ok (.iload 5, 2) := by decide +kernel
theorem dX1_bestColouringOf_30 : decode cX1_bestColouringOf 30 = .ok (.iload_n 3, 1) := by decide +kernel
theorem dX1_bestColouringOf_31 : decode cX1_bestColouringOf 31 = .ok (.if_icmp .ge 9, 3) := by decide +kernel
theorem dX1_bestColouringOf_34 : decode cX1_bestColouringOf 34 = .ok (.iload 5, 2) := by decide +kernel
theorem dX1_bestColouringOf_36 : decode cX1_bestColouringOf 36 = .ok (.istore_n 3, 1) := by decide +kernel
theorem dX1_bestColouringOf_37 : decode cX1_bestColouringOf 37 = .ok (.iload 4, 2) := by decide +kernel
theorem dX1_bestColouringOf_39 : decode cX1_bestColouringOf 39 = .ok (.istore_n 2, 1) := by decide +kernel
theorem dX1_bestColouringOf_40 : decode cX1_bestColouringOf 40 = .ok (.iinc 4 2, 3) := by decide +kernel
theorem dX1_bestColouringOf_43 : decode cX1_bestColouringOf 43 = .ok (.goto (-31), 3) := by decide +kernel
theorem dX1_bestColouringOf_46 : decode cX1_bestColouringOf 46 = .ok (.iload_n 2, 1) := by decide +kernel
theorem dX1_bestColouringOf_47 : decode cX1_bestColouringOf 47 = .ok (.ireturn, 1) := by decide +kernel
set_option maxRecDepth 20000 in
theorem ggX1_twoColoured_X1_bestColouringOf : GoodIn wsX1_twoColoured wsX1_bestColouringOf := goodIn_r _ [5, 6, 7, 8, 4, 9, 10, 11, 12, 13, 14, 15, 16, 17, 18, 19, 20, 21] (by decide +kernel) (by decide +kernel)
set_option maxRecDepth 20000 in
theorem gX1_twoColoured_X1_bestColouringOf : GoodIn wsX1_twoColoured (wsV RX1 28 RX1 yX1_bestColouringOf wsX1_bestColouringOf) := goodIn_app (goodIn_of _ (by decide +kernel)) ggX1_twoColoured_X1_bestColouringOf
set_option maxRecDepth 20000 in
theorem ggX1_twoColoured_X1_likeLines : GoodIn wsX1_twoColoured wsX1_likeLines := goodIn_r _ [9, 10, 11, 12, 4, 13, 14, 15, 16, 17, 18, 19, 20, 21] (by decide +kernel) (by decide +kernel)
set_option maxRecDepth 20000 in
theorem gX1_twoColoured_X1_likeLines : GoodIn wsX1_twoColoured (wsV RX1 15 RX1 yX1_likeLines wsX1_likeLines) := goodIn_app (goodIn_of _ (by decide +kernel)) ggX1_twoColoured_X1_likeLines
theorem dX1_twoColoured_0 : decode cX1_twoColoured 0 = .ok (.aload_n 0, 1) := by decide +kernel
theorem dX1_twoColoured_1 : decode cX1_twoColoured 1 = .ok (.iload_n 1, 1) := by decide +kernel
theorem dX1_twoColoured_2 : decode cX1_twoColoured 2 = .ok (.aload_n 0, 1) := by decide +kernel
theorem dX1_twoColoured_3 : decode cX1_twoColoured 3 = .ok (.iload_n 1, 1) := by decide +kernel
theorem dX1_twoColoured_4 : decode cX1_twoColoured 4 = .ok (.invokevirtual 28, 3) := by decide +kernel
theorem dX1_twoColoured_7 : decode cX1_twoColoured 7 = .ok (.invokevirtual 15, 3) := by decide +kernel
theorem dX1_twoColoured_10 : decode cX1_twoColoured 10 = .ok (.ifCond .ne 7, 3) := by decide +kernel
theorem dX1_twoColoured_13 : decode cX1_twoColoured 13 = .ok (.iconst 1, 1) := by decide +kernel
theorem dX1_twoColoured_14 : decode cX1_twoColoured 14 = .ok (.goto 4, 3) := by decide +kernel
theorem dX1_twoColoured_17 : decode cX1_twoColoured 17 = .ok (.iconst 0, 1) := by decide +kernel
theorem dX1_twoColoured_18 : decode cX1_twoColoured 18 = .ok (.ireturn, 1) := by decide +kernel
set_option maxRecDepth 20000 in
theorem ggX1_sets_J6_bitCount_0f7a4 : GoodIn wsX1_sets wsJ6_bitCount_0f7a4 := goodIn_r _ [4, 5, 6, 7] (by decide +kernel) (by decide +kernel)
set_option maxRecDepth 20000 in
theorem gX1_sets_J6_bitCount_0f7a4 : GoodIn wsX1_sets (va_wsS RX1 22 yJ6_bitCount_0f7a4 wsJ6_bitCount_0f7a4) := goodIn_app (goodIn_of _ (by decide +kernel)) ggX1_sets_J6_bitCount_0f7a4
theorem dX1_sets_0 : decode cX1_sets 0 = .ok (.iconst 0, 1) := by decide +kernel
theorem dX1_sets_1 : decode cX1_sets 1 = .ok (.istore_n 1, 1) := by decide +kernel
theorem dX1_sets_2 : decode cX1_sets 2 = .ok (.iconst 0, 1) := by decide +kernel
theorem dX1_sets_3 : decode cX1_sets 3 = .ok (.istore_n 2, 1) := by decide +kernel
theorem dX1_sets_4 : decode cX1_sets 4 = .ok (.iload_n 2, 1) := by decide +kernel
theorem dX1_sets_5 : decode cX1_sets 5 = .ok (.bipush 63, 2) := by decide +kernel
theorem dX1_sets_7 : decode cX1_sets 7 = .ok (.if_icmp .gt 20, 3) := by decide +kernel
theorem dX1_sets_10 : decode cX1_sets 10 = .ok (.iload_n 2, 1) := by decide +kernel
theorem dX1_sets_11 : decode cX1_sets 11 = .ok (.invokestatic 22, 3) := by decide +kernel
theorem dX1_sets_14 : decode cX1_sets 14 = .ok (.iload_n 0, 1) := by decide +kernel
theorem dX1_sets_15 : decode cX1_sets 15 = .ok (.if_icmp .ne 6, 3) := by decide +kernel
theorem dX1_sets_18 : decode cX1_sets 18 = .ok (.iinc 1 1, 3) := by decide +kernel
theorem dX1_sets_21 : decode cX1_sets 21 = .ok (.iinc 2 1, 3) := by decide +kernel
theorem dX1_sets_24 : decode cX1_sets 24 = .ok (.goto (-20), 3) := by decide +kernel
theorem dX1_sets_27 : decode cX1_sets 27 = .ok (.iload_n 1, 1) := by decide +kernel
theorem dX1_sets_28 : decode cX1_sets 28 = .ok (.ireturn, 1) := by decide +kernel
set_option maxRecDepth 20000 in
theorem ggX1_passing_J6_bitCount_0f7a4 : GoodIn wsX1_passing wsJ6_bitCount_0f7a4 := goodIn_r _ [4, 5, 6, 7] (by decide +kernel) (by decide +kernel)
set_option maxRecDepth 20000 in
theorem gX1_passing_J6_bitCount_0f7a4 : GoodIn wsX1_passing (va_wsS RX1 22 yJ6_bitCount_0f7a4 wsJ6_bitCount_0f7a4) := goodIn_app (goodIn_of _ (by decide +kernel)) ggX1_passing_J6_bitCount_0f7a4
set_option maxRecDepth 20000 in
theorem ggX1_passing_X1_twoColoured : GoodIn wsX1_passing wsX1_twoColoured := goodIn_r _ [12, 13, 14, 15, 11, 16, 17, 18, 19, 20, 21, 22, 23, 24, 1, 2, 3, 4, 5, 6, 7, 25] (by decide +kernel) (by decide +kernel)
set_option maxRecDepth 20000 in
theorem gX1_passing_X1_twoColoured : GoodIn wsX1_passing (wsV RX1 31 RX1 yX1_twoColoured wsX1_twoColoured) := goodIn_app (goodIn_of _ (by decide +kernel)) ggX1_passing_X1_twoColoured
theorem dX1_passing_0 : decode cX1_passing 0 = .ok (.iconst 0, 1) := by decide +kernel
theorem dX1_passing_1 : decode cX1_passing 1 = .ok (.istore_n 2, 1) := by decide +kernel
theorem dX1_passing_2 : decode cX1_passing 2 = .ok (.iconst 0, 1) := by decide +kernel
theorem dX1_passing_3 : decode cX1_passing 3 = .ok (.istore_n 3, 1) := by decide +kernel
theorem dX1_passing_4 : decode cX1_passing 4 = .ok (.iload_n 3, 1) := by decide +kernel
theorem dX1_passing_5 : decode cX1_passing 5 = .ok (.bipush 63, 2) := by decide +kernel
theorem dX1_passing_7 : decode cX1_passing 7 = .ok (.if_icmp .gt 28, 3) := by decide +kernel
theorem dX1_passing_10 : decode cX1_passing 10 = .ok (.iload_n 3, 1) := by decide +kernel
theorem dX1_passing_11 : decode cX1_passing 11 = .ok (.invokestatic 22, 3) := by decide +kernel
theorem dX1_passing_14 : decode cX1_passing 14 = .ok (.iload_n 1, 1) := by decide +kernel
theorem dX1_passing_15 : decode cX1_passing 15 = .ok (.if_icmp .ne 14, 3) := by decide +kernel
theorem dX1_passing_18 : decode cX1_passing 18 = .ok (.aload_n 0, 1) := by decide +kernel
theorem dX1_passing_19 : decode cX1_passing 19 = .ok (.iload_n 3, 1) := by decide +kernel
theorem dX1_passing_20 : decode cX1_passing 20 = .ok (.invokevirtual 31, 3) := by decide +kernel
theorem dX1_passing_23 : decode cX1_passing 23 = .ok (.ifCond .eq 6, 3) := by decide +kernel
theorem dX1_passing_26 : decode cX1_passing 26 = .ok (.iinc 2 1, 3) := by decide +kernel
theorem dX1_passing_29 : decode cX1_passing 29 = .ok (.iinc 3 1, 3) := by decide +kernel
theorem dX1_passing_32 : decode cX1_passing 32 = .ok (.goto (-28), 3) := by decide +kernel
theorem dX1_passing_35 : decode cX1_passing 35 = .ok (.iload_n 2, 1) := by decide +kernel
theorem dX1_passing_36 : decode cX1_passing 36 = .ok (.ireturn, 1) := by decide +kernel
theorem dX2_init_0 : decode cX2_init 0 = .ok (.aload_n 0, 1) := by decide +kernel
theorem dX2_init_1 : decode cX2_init 1 = .ok (.invokespecial 3, 3) := by decide +kernel
theorem dX2_init_4 : decode cX2_init 4 = .ok (.aload_n 0, 1) := by decide +kernel
theorem dX2_init_5 : decode cX2_init 5 = .ok (.bipush 8, 2) := by decide +kernel
theorem dX2_init_7 : decode cX2_init 7 = .ok (.newarray .int, 2) := by decide +kernel
theorem dX2_init_9 : decode cX2_init 9 = .ok (.putfield 9, 3) := by decide +kernel
theorem dX2_init_12 : decode cX2_init 12 = .ok (.aload_n 0, 1) := by decide +kernel
theorem dX2_init_13 : decode cX2_init 13 = .ok (.bipush 8, 2) := by decide +kernel
theorem dX2_init_15 : decode cX2_init 15 = .ok (.putfield 15, 3) := by decide +kernel
theorem dX2_init_18 : decode cX2_init 18 = .ok (.return_, 1) := by decide +kernel
theorem dX2_clear_0 : decode cX2_clear 0 = .ok (.aload_n 0, 1) := by decide +kernel
theorem dX2_clear_1 : decode cX2_clear 1 = .ok (.iload_n 1, 1) := by decide +kernel
theorem dX2_clear_2 : decode cX2_clear 2 = .ok (.putfield 15, 3) := by decide +kernel
theorem dX2_clear_5 : decode cX2_clear 5 = .ok (.iconst 0, 1) := by decide +kernel
theorem dX2_clear_6 : decode cX2_clear 6 = .ok (.istore_n 2, 1) := by decide +kernel
theorem dX2_clear_7 : decode cX2_clear 7 = .ok (.iload_n 2, 1) := by decide +kernel
theorem dX2_clear_8 : decode cX2_clear 8 = .ok (.bipush 8, 2) := by decide +kernel
theorem dX2_clear_10 : decode cX2_clear 10 = .ok (.if_icmp .ge 16, 3) := by decide +kernel
theorem dX2_clear_13 : decode cX2_clear 13 = .ok (.aload_n 0, 1) := by decide +kernel
theorem dX2_clear_14 : decode cX2_clear 14 = .ok (.getfield 9, 3) := by decide +kernel
theorem dX2_clear_17 : decode cX2_clear 17 = .ok (.iload_n 2, 1) := by decide +kernel
theorem dX2_clear_18 : decode cX2_clear 18 = .ok (.iconst 0, 1) := by decide +kernel
theorem dX2_clear_19 : decode cX2_clear 19 = .ok (.iastore, 1) := by decide +kernel
theorem dX2_clear_20 : decode cX2_clear 20 = .ok (.iinc 2 1, 3) := by decide +kernel
theorem dX2_clear_23 : decode cX2_clear 23 = .ok (.goto (-16), 3) := by decide +kernel
theorem dX2_clear_26 : decode cX2_clear 26 = .ok (.return_, 1) := by decide +kernel
theorem dX2_become_0 : decode cX2_become 0 = .ok (.aload_n 0, 1) := by decide +kernel
theorem dX2_become_1 : decode cX2_become 1 = .ok (.aload_n 1, 1) := by decide +kernel
theorem dX2_become_2 : decode cX2_become 2 = .ok (.getfield 15, 3) := by decide +kernel
theorem dX2_become_5 : decode cX2_become 5 = .ok (.putfield 15, 3) := by decide +kernel
theorem dX2_become_8 : decode cX2_become 8 = .ok (.iconst 0, 1) := by decide +kernel
theorem dX2_become_9 : decode cX2_become 9 = .ok (.istore_n 2, 1) := by decide +kernel
theorem dX2_become_10 : decode cX2_become 10 = .ok (.iload_n 2, 1) := by decide +kernel
theorem dX2_become_11 : decode cX2_become 11 = .ok (.bipush 8, 2) := by decide +kernel
theorem dX2_become_13 : decode cX2_become 13 = .ok (.if_icmp .ge 21, 3) := by decide +kernel
theorem dX2_become_16 : decode cX2_become 16 = .ok (.aload_n 0, 1) := by decide +kernel
theorem dX2_become_17 : decode cX2_become 17 = .ok (.getfield 9, 3) := by decide +kernel
theorem dX2_become_20 : decode cX2_become 20 = .ok (.iload_n 2, 1) := by decide +kernel
theorem dX2_become_21 : decode cX2_become 21 = .ok (.aload_n 1, 1) := by decide +kernel
theorem dX2_become_22 : decode cX2_become 22 = .ok (.getfield 9, 3) := by decide +kernel
theorem dX2_become_25 : decode cX2_become 25 = .ok (.iload_n 2, 1) := by decide +kernel
theorem dX2_become_26 : decode cX2_become 26 = .ok (.iaload, 1) := by decide +kernel
theorem dX2_become_27 : decode cX2_become 27 = .ok (.iastore, 1) := by decide +kernel
theorem dX2_become_28 : decode cX2_become 28 = .ok (.iinc 2 1, 3) := by decide +kernel
theorem dX2_become_31 : decode cX2_become 31 = .ok (.goto (-21), 3) := by decide +kernel
theorem dX2_become_34 : decode cX2_become 34 = .ok (.return_, 1) := by decide +kernel
theorem dX2_spell_0 : decode cX2_spell 0 = .ok (.aload_n 0, 1) := by decide +kernel
theorem dX2_spell_1 : decode cX2_spell 1 = .ok (.iload_n 2, 1) := by decide +kernel
theorem dX2_spell_2 : decode cX2_spell 2 = .ok (.putfield 15, 3) := by decide +kernel
theorem dX2_spell_5 : decode cX2_spell 5 = .ok (.iconst 0, 1) := by decide +kernel
theorem dX2_spell_6 : decode cX2_spell 6 = .ok (.istore_n 3, 1) := by decide +kernel
theorem dX2_spell_7 : decode cX2_spell 7 = .ok (.iload_n 3, 1) := by decide +kernel
theorem dX2_spell_8 : decode cX2_spell 8 = .ok (.aload_n 0, 1) := by decide +kernel
theorem dX2_spell_9 : decode cX2_spell 9 = .ok (.getfield 15, 3) := by decide +kernel
theorem dX2_spell_12 : decode cX2_spell 12 = .ok (.if_icmp .ge 27, 3) := by decide +kernel
theorem dX2_spell_15 : decode cX2_spell 15 = .ok (.aload_n 0, 1) := by decide +kernel
theorem dX2_spell_16 : decode cX2_spell 16 = .ok (.getfield 9, 3) := by decide +kernel
theorem dX2_spell_19 : decode cX2_spell 19 = .ok (.iload_n 3, 1) := by decide +kernel
theorem dX2_spell_20 : decode cX2_spell 20 = .ok (.iload_n 1, 1) := by decide +kernel
theorem dX2_spell_21 : decode cX2_spell 21 = .ok (.aload_n 0, 1) := by decide +kernel
theorem dX2_spell_22 : decode cX2_spell 22 = .ok (.getfield 15, 3) := by decide +kernel
theorem dX2_spell_25 : decode cX2_spell 25 = .ok (.iconst 1, 1) := by decide +kernel
theorem dX2_spell_26 : decode cX2_spell 26 = .ok (.isub, 1) := by decide +kernel
theorem dX2_spell_27 : decode cX2_spell 27 = .ok (.iload_n 3, 1) := by decide +kernel
theorem dX2_spell_28 : decode cX2_spell 28 = .ok (.isub, 1) := by decide +kernel
theorem dX2_spell_29 : decode cX2_spell 29 = .ok (.ishr, 1) := by decide +kernel
theorem dX2_spell_30 : decode cX2_spell 30 = .ok (.iconst 1, 1) := by decide +kernel
theorem dX2_spell_31 : decode cX2_spell 31 = .ok (.iand, 1) := by decide +kernel
theorem dX2_spell_32 : decode cX2_spell 32 = .ok (.iastore, 1) := by decide +kernel
theorem dX2_spell_33 : decode cX2_spell 33 = .ok (.iinc 3 1, 3) := by decide +kernel
theorem dX2_spell_36 : decode cX2_spell 36 = .ok (.goto (-29), 3) := by decide +kernel
theorem dX2_spell_39 : decode cX2_spell 39 = .ok (.return_, 1) := by decide +kernel
theorem dX2_total_0 : decode cX2_total 0 = .ok (.iconst 0, 1) := by decide +kernel
theorem dX2_total_1 : decode cX2_total 1 = .ok (.istore_n 1, 1) := by decide +kernel
theorem dX2_total_2 : decode cX2_total 2 = .ok (.iconst 0, 1) := by decide +kernel
theorem dX2_total_3 : decode cX2_total 3 = .ok (.istore_n 2, 1) := by decide +kernel
theorem dX2_total_4 : decode cX2_total 4 = .ok (.iload_n 2, 1) := by decide +kernel
theorem dX2_total_5 : decode cX2_total 5 = .ok (.aload_n 0, 1) := by decide +kernel
theorem dX2_total_6 : decode cX2_total 6 = .ok (.getfield 15, 3) := by decide +kernel
theorem dX2_total_9 : decode cX2_total 9 = .ok (.if_icmp .ge 18, 3) := by decide +kernel
theorem dX2_total_12 : decode cX2_total 12 = .ok (.iload_n 1, 1) := by decide +kernel
theorem dX2_total_13 : decode cX2_total 13 = .ok (.aload_n 0, 1) := by decide +kernel
theorem dX2_total_14 : decode cX2_total 14 = .ok (.getfield 9, 3) := by decide +kernel
theorem dX2_total_17 : decode cX2_total 17 = .ok (.iload_n 2, 1) := by decide +kernel
theorem dX2_total_18 : decode cX2_total 18 = .ok (.iaload, 1) := by decide +kernel
theorem dX2_total_19 : decode cX2_total 19 = .ok (.iadd, 1) := by decide +kernel
theorem dX2_total_20 : decode cX2_total 20 = .ok (.istore_n 1, 1) := by decide +kernel
theorem dX2_total_21 : decode cX2_total 21 = .ok (.iinc 2 1, 3) := by decide +kernel
theorem dX2_total_24 : decode cX2_total 24 = .ok (.goto (-20), 3) := by decide +kernel
theorem dX2_total_27 : decode cX2_total 27 = .ok (.iload_n 1, 1) := by decide +kernel
theorem dX2_total_28 : decode cX2_total 28 = .ok (.ireturn, 1) := by decide +kernel
theorem dX2_differing_0 : decode cX2_differing 0 = .ok (.iconst 0, 1) := by decide +kernel
theorem dX2_differing_1 : decode cX2_differing 1 = .ok (.istore_n 2, 1) := by decide +kernel
theorem dX2_differing_2 : decode cX2_differing 2 = .ok (.iconst 0, 1) := by decide +kernel
theorem dX2_differing_3 : decode cX2_differing 3 = .ok (.istore_n 3, 1) := by decide +kernel
theorem dX2_differing_4 : decode cX2_differing 4 = .ok (.iload_n 3, 1) := by decide +kernel
theorem dX2_differing_5 : decode cX2_differing 5 = .ok (.aload_n 0, 1) := by decide +kernel
theorem dX2_differing_6 : decode cX2_differing 6 = .ok (.getfield 15, 3) := by decide +kernel
theorem dX2_differing_9 : decode cX2_differing 9 = .ok (.if_icmp .ge 27, 3) := by decide +kernel
theorem dX2_differing_12 : decode cX2_differing 12 = .ok (.aload_n 0, 1) := by decide +kernel
theorem dX2_differing_13 : decode cX2_differing 13 = .ok (.getfield 9, 3) := by decide +kernel
theorem dX2_differing_16 : decode cX2_differing 16 = .ok (.iload_n 3, 1) := by decide +kernel
theorem dX2_differing_17 : decode cX2_differing 17 = .ok (.iaload, 1) := by decide +kernel
theorem dX2_differing_18 : decode cX2_differing 18 = .ok (.aload_n 1, 1) := by decide +kernel
theorem dX2_differing_19 : decode cX2_differing 19 = .ok (.getfield 9, 3) := by decide +kernel
theorem dX2_differing_22 : decode cX2_differing 22 = .ok (.iload_n 3, 1) := by decide +kernel
theorem dX2_differing_23 : decode cX2_differing 23 = .ok (.iaload, 1) := by decide +kernel
theorem dX2_differing_24 : decode cX2_differing 24 = .ok (.if_icmp .eq 6, 3) := by decide +kernel
theorem dX2_differing_27 : decode cX2_differing 27 = .ok (.iinc 2 1, 3) := by decide +kernel
theorem dX2_differing_30 : decode cX2_differing 30 = .ok (.iinc 3 1, 3) := by decide +kernel
theorem dX2_differing_33 : decode cX2_differing 33 = .ok (.goto (-29), 3) := by decide +kernel
theorem dX2_differing_36 : decode cX2_differing 36 = .ok (.iload_n 2, 1) := by decide +kernel
theorem dX2_differing_37 : decode cX2_differing 37 = .ok (.ireturn, 1) := by decide +kernel
theorem dX2_isAheadOf_0 : decode cX2_isAheadOf 0 = .ok (.iconst 0, 1) := by decide +kernel
theorem dX2_isAheadOf_1 : decode cX2_isAheadOf 1 = .ok (.istore_n 2, 1) := by decide +kernel
theorem dX2_isAheadOf_2 : decode cX2_isAheadOf 2 = .ok (.iload_n 2, 1) := by decide +kernel
theorem dX2_isAheadOf_3 : decode cX2_isAheadOf 3 = .ok (.aload_n 0, 1) := by decide +kernel
theorem dX2_isAheadOf_4 : decode cX2_isAheadOf 4 = .ok (.getfield 15, 3) := by decide +kernel
theorem dX2_isAheadOf_7 : decode cX2_isAheadOf 7 = .ok (.if_icmp .ge 45, 3) := by decide +kernel
theorem dX2_isAheadOf_10 : decode cX2_isAheadOf 10 = .ok (.aload_n 0, 1) := by decide +kernel
theorem dX2_isAheadOf_11 : decode cX2_isAheadOf 11 = .ok (.getfield 9, 3) := by decide +kernel
theorem dX2_isAheadOf_14 : decode cX2_isAheadOf 14 = .ok (.iload_n 2, 1) := by decide +kernel
theorem dX2_isAheadOf_15 : decode cX2_isAheadOf 15 = .ok (.iaload, 1) := by decide +kernel
theorem dX2_isAheadOf_16 : decode cX2_isAheadOf 16 = .ok (.aload_n 1, 1) := by decide +kernel
theorem dX2_isAheadOf_17 : decode cX2_isAheadOf 17 = .ok (.getfield 9, 3) := by decide +kernel
theorem dX2_isAheadOf_20 : decode cX2_isAheadOf 20 = .ok (.iload_n 2, 1) := by decide +kernel
theorem dX2_isAheadOf_21 : decode cX2_isAheadOf 21 = .ok (.iaload, 1) := by decide +kernel
theorem dX2_isAheadOf_22 : decode cX2_isAheadOf 22 = .ok (.if_icmp .eq 24, 3) := by decide +kernel
theorem dX2_isAheadOf_25 : decode cX2_isAheadOf 25 = .ok (.aload_n 0, 1) := by decide +kernel
theorem dX2_isAheadOf_26 : decode cX2_isAheadOf 26 = .ok (.getfield 9, 3) := by decide +kernel
theorem dX2_isAheadOf_29 : decode cX2_isAheadOf 29 = .ok (.iload_n 2, 1) := by decide +kernel
theorem dX2_isAheadOf_30 : decode cX2_isAheadOf 30 = .ok (.iaload, 1) := by decide +kernel
theorem dX2_isAheadOf_31 : decode cX2_isAheadOf 31 = .ok (.aload_n 1, 1) := by decide +kernel
theorem dX2_isAheadOf_32 : decode cX2_isAheadOf 32 = .ok (.getfield 9, 3) := by decide +kernel
theorem dX2_isAheadOf_35 : decode cX2_isAheadOf 35 = .ok (.iload_n 2, 1) := by decide +kernel
theorem dX2_isAheadOf_36 : decode cX2_isAheadOf 36 = .ok (.iaload, 1) := by decide +kernel
theorem dX2_isAheadOf_37 : decode cX2_isAheadOf 37 = .ok (.if_icmp .ge 7, 3) := by decide +kernel
theorem dX2_isAheadOf_40 : decode cX2_isAheadOf 40 = .ok (.iconst 1, 1) := by decide +kernel
theorem dX2_isAheadOf_41 : decode cX2_isAheadOf 41 = .ok (.goto 4, 3) := by decide +kernel
theorem dX2_isAheadOf_44 : decode cX2_isAheadOf 44 = .ok (.iconst 0, 1) := by decide +kernel
theorem dX2_isAheadOf_45 : decode cX2_isAheadOf 45 = .ok (.ireturn, 1) := by decide +kernel
theorem dX2_isAheadOf_46 : decode cX2_isAheadOf 46 = .ok (.iinc 2 1, 3) := by decide +kernel
theorem dX2_isAheadOf_49 : decode cX2_isAheadOf 49 = .ok (.goto (-47), 3) := by decide +kernel
theorem dX2_isAheadOf_52 : decode cX2_isAheadOf 52 = .ok (.iconst 0, 1) := by decide +kernel
theorem dX2_isAheadOf_53 : decode cX2_isAheadOf 53 = .ok (.ireturn, 1) := by decide +kernel
theorem dX2_looks_0 : decode cX2_looks 0 = .ok (.iload_n 1, 1) := by decide +kernel
theorem dX2_looks_1 : decode cX2_looks 1 = .ok (.tableswitch 48 0 2 #[27, 41, 46], 27) := by decide +kernel
theorem dX2_looks_28 : decode cX2_looks 28 = .ok (.aload_n 0, 1) := by decide +kernel
theorem dX2_looks_29 : decode cX2_looks 29 = .ok (.getfield 15, 3) := by decide +kernel
theorem dX2_looks_32 : decode cX2_looks 32 = .ok (.aload_n 0, 1) := by decide +kernel
theorem dX2_looks_33 : decode cX2_looks 33 = .ok (.getfield 15, 3) := by decide +kernel
theorem dX2_looks_36 : decode cX2_looks 36 = .ok (.iconst 1, 1) := by decide +kernel
theorem dX2_looks_37 : decode cX2_looks 37 = .ok (.isub, 1) := by decide +kernel
theorem dX2_looks_38 : decode cX2_looks 38 = .ok (.imul, 1) := by decide +kernel
theorem dX2_looks_39 : decode cX2_looks 39 = .ok (.iconst 2, 1) := by decide +kernel
theorem dX2_looks_40 : decode cX2_looks 40 = .ok (.idiv, 1) := by decide +kernel
theorem dX2_looks_41 : decode cX2_looks 41 = .ok (.ireturn, 1) := by decide +kernel
theorem dX2_looks_42 : decode cX2_looks 42 = .ok (.aload_n 0, 1) := by decide +kernel
theorem dX2_looks_43 : decode cX2_looks 43 = .ok (.getfield 15, 3) := by decide +kernel
theorem dX2_looks_46 : decode cX2_looks 46 = .ok (.ireturn, 1) := by decide +kernel
theorem dX2_looks_47 : decode cX2_looks 47 = .ok (.iconst 1, 1) := by decide +kernel
theorem dX2_looks_48 : decode cX2_looks 48 = .ok (.ireturn, 1) := by decide +kernel
theorem dX2_looks_49 : decode cX2_looks 49 = .ok (.aload_n 0, 1) := by decide +kernel
theorem dX2_looks_50 : decode cX2_looks 50 = .ok (.getfield 15, 3) := by decide +kernel
theorem dX2_looks_53 : decode cX2_looks 53 = .ok (.aload_n 0, 1) := by decide +kernel
theorem dX2_looks_54 : decode cX2_looks 54 = .ok (.getfield 15, 3) := by decide +kernel
theorem dX2_looks_57 : decode cX2_looks 57 = .ok (.iconst 1, 1) := by decide +kernel
theorem dX2_looks_58 : decode cX2_looks 58 = .ok (.isub, 1) := by decide +kernel
theorem dX2_looks_59 : decode cX2_looks 59 = .ok (.imul, 1) := by decide +kernel
theorem dX2_looks_60 : decode cX2_looks 60 = .ok (.ireturn, 1) := by decide +kernel
set_option maxRecDepth 20000 in
theorem ggX2_passing_X2_risingPairs : GoodIn wsX2_passing wsX2_risingPairs := goodIn_r _ [5, 6, 7, 20, 21] (by decide +kernel) (by decide +kernel)
set_option maxRecDepth 20000 in
theorem gX2_passing_X2_risingPairs : GoodIn wsX2_passing (wsV RX2 19 RX2 yX2_risingPairs wsX2_risingPairs) := goodIn_app (goodIn_of _ (by decide +kernel)) ggX2_passing_X2_risingPairs
set_option maxRecDepth 20000 in
theorem ggX2_passing_X2_mirroredPlaces : GoodIn wsX2_passing wsX2_mirroredPlaces := goodIn_r _ [11, 6, 7, 20, 21] (by decide +kernel) (by decide +kernel)
set_option maxRecDepth 20000 in
theorem gX2_passing_X2_mirroredPlaces : GoodIn wsX2_passing (wsV RX2 23 RX2 yX2_mirroredPlaces wsX2_mirroredPlaces) := goodIn_app (goodIn_of _ (by decide +kernel)) ggX2_passing_X2_mirroredPlaces
set_option maxRecDepth 20000 in
theorem ggX2_passing_X2_total : GoodIn wsX2_passing wsX2_total := goodIn_r _ [15, 6, 7, 20, 21] (by decide +kernel) (by decide +kernel)
set_option maxRecDepth 20000 in
theorem gX2_passing_X2_total : GoodIn wsX2_passing (wsV RX2 26 RX2 yX2_total wsX2_total) := goodIn_app (goodIn_of _ (by decide +kernel)) ggX2_passing_X2_total
set_option maxRecDepth 20000 in
theorem ggX2_passing_X2_alikeShifts : GoodIn wsX2_passing wsX2_alikeShifts := goodIn_r _ [19, 6, 7, 20, 21] (by decide +kernel) (by decide +kernel)
set_option maxRecDepth 20000 in
theorem gX2_passing_X2_alikeShifts : GoodIn wsX2_passing (wsV RX2 29 RX2 yX2_alikeShifts wsX2_alikeShifts) := goodIn_app (goodIn_of _ (by decide +kernel)) ggX2_passing_X2_alikeShifts
theorem dX2_passing_0 : decode cX2_passing 0 = .ok (.iload_n 1, 1) := by decide +kernel
theorem dX2_passing_1 : decode cX2_passing 1 = .ok (.tableswitch 52 0 2 #[27, 32, 37], 27) := by decide +kernel
theorem dX2_passing_28 : decode cX2_passing 28 = .ok (.aload_n 0, 1) := by decide +kernel
theorem dX2_passing_29 : decode cX2_passing 29 = .ok (.invokevirtual 19, 3) := by decide +kernel
theorem dX2_passing_32 : decode cX2_passing 32 = .ok (.ireturn, 1) := by decide +kernel
theorem dX2_passing_33 : decode cX2_passing 33 = .ok (.aload_n 0, 1) := by decide +kernel
theorem dX2_passing_34 : decode cX2_passing 34 = .ok (.invokevirtual 23, 3) := by decide +kernel
theorem dX2_passing_37 : decode cX2_passing 37 = .ok (.ireturn, 1) := by decide +kernel
theorem dX2_passing_38 : decode cX2_passing 38 = .ok (.aload_n 0, 1) := by decide +kernel
theorem dX2_passing_39 : decode cX2_passing 39 = .ok (.invokevirtual 26, 3) := by decide +kernel
theorem dX2_passing_42 : decode cX2_passing 42 = .ok (.iconst 2, 1) := by decide +kernel
theorem dX2_passing_43 : decode cX2_passing 43 = .ok (.irem, 1) := by decide +kernel
theorem dX2_passing_44 : decode cX2_passing 44 = .ok (.ifCond .ne 7, 3) := by decide +kernel
theorem dX2_passing_47 : decode cX2_passing 47 = .ok (.iconst 1, 1) := by decide +kernel
theorem dX2_passing_48 : decode cX2_passing 48 = .ok (.goto 4, 3) := by decide +kernel
theorem dX2_passing_51 : decode cX2_passing 51 = .ok (.iconst 0, 1) := by decide +kernel
theorem dX2_passing_52 : decode cX2_passing 52 = .ok (.ireturn, 1) := by decide +kernel
theorem dX2_passing_53 : decode cX2_passing 53 = .ok (.aload_n 0, 1) := by decide +kernel
theorem dX2_passing_54 : decode cX2_passing 54 = .ok (.invokevirtual 29, 3) := by decide +kernel
theorem dX2_passing_57 : decode cX2_passing 57 = .ok (.ireturn, 1) := by decide +kernel
theorem dX2_risingPairs_0 : decode cX2_risingPairs 0 = .ok (.iconst 0, 1) := by decide +kernel
theorem dX2_risingPairs_1 : decode cX2_risingPairs 1 = .ok (.istore_n 1, 1) := by decide +kernel
theorem dX2_risingPairs_2 : decode cX2_risingPairs 2 = .ok (.iconst 0, 1) := by decide +kernel
theorem dX2_risingPairs_3 : decode cX2_risingPairs 3 = .ok (.istore_n 2, 1) := by decide +kernel
theorem dX2_risingPairs_4 : decode cX2_risingPairs 4 = .ok (.iload_n 2, 1) := by decide +kernel
theorem dX2_risingPairs_5 : decode cX2_risingPairs 5 = .ok (.aload_n 0, 1) := by decide +kernel
theorem dX2_risingPairs_6 : decode cX2_risingPairs 6 = .ok (.getfield 15, 3) := by decide +kernel
theorem dX2_risingPairs_9 : decode cX2_risingPairs 9 = .ok (.if_icmp .ge 45, 3) := by decide +kernel
theorem dX2_risingPairs_12 : decode cX2_risingPairs 12 = .ok (.iload_n 2, 1) := by decide +kernel
theorem dX2_risingPairs_13 : decode cX2_risingPairs 13 = .ok (.iconst 1, 1) := by decide +kernel
theorem dX2_risingPairs_14 : decode cX2_risingPairs 14 = .ok (.iadd, 1) := by decide +kernel
theorem dX2_risingPairs_15 : decode cX2_risingPairs 15 = .ok (.istore_n 3, 1) := by decide +kernel
theorem dX2_risingPairs_16 : decode cX2_risingPairs 16 = .ok (.iload_n 3, 1) := by decide +kernel
theorem dX2_risingPairs_17 : decode cX2_risingPairs 17 = .ok (.aload_n 0, 1) := by decide +kernel
theorem dX2_risingPairs_18 : decode cX2_risingPairs 18 = .ok (.getfield 15, 3) := by decide +kernel
theorem dX2_risingPairs_21 : decode cX2_risingPairs 21 = .ok (.if_icmp .ge 27, 3) := by decide +kernel
theorem dX2_risingPairs_24 : decode cX2_risingPairs 24 = .ok (.aload_n 0, 1) := by decide +kernel
theorem dX2_risingPairs_25 : decode cX2_risingPairs 25 = .ok (.getfield 9, 3) := by decide +kernel
theorem dX2_risingPairs_28 : decode cX2_risingPairs 28 = .ok (.iload_n 2, 1) := by decide +kernel
theorem dX2_risingPairs_29 : decode cX2_risingPairs 29 = .ok (.iaload, 1) := by decide +kernel
theorem dX2_risingPairs_30 : decode cX2_risingPairs 30 = .ok (.aload_n 0, 1) := by decide +kernel
theorem dX2_risingPairs_31 : decode cX2_risingPairs 31 = .ok (.getfield 9, 3) := by decide +kernel
theorem dX2_risingPairs_34 : decode cX2_risingPairs 34 = .ok (.iload_n 3, 1) := by decide +kernel
theorem dX2_risingPairs_35 : decode cX2_risingPairs 35 = .ok (.iaload, 1) := by decide +kernel
theorem dX2_risingPairs_36 : decode cX2_risingPairs 36 = .ok (.if_icmp .gt 6, 3) := by decide +kernel
theorem dX2_risingPairs_39 : decode cX2_risingPairs 39 = .ok (.iinc 1 1, 3) := by decide +kernel
theorem dX2_risingPairs_42 : decode cX2_risingPairs 42 = .ok (.iinc 3 1, 3) := by decide +kernel
theorem dX2_risingPairs_45 : decode cX2_risingPairs 45 = .ok (.goto (-29), 3) := by decide +kernel
theorem dX2_risingPairs_48 : decode cX2_risingPairs 48 = .ok (.iinc 2 1, 3) := by decide +kernel
theorem dX2_risingPairs_51 : decode cX2_risingPairs 51 = .ok (.goto (-47), 3) := by decide +kernel
theorem dX2_risingPairs_54 : decode cX2_risingPairs 54 = .ok (.iload_n 1, 1) := by decide +kernel
theorem dX2_risingPairs_55 : decode cX2_risingPairs 55 = .ok (.ireturn, 1) := by decide +kernel
theorem dX2_mirroredPlaces_0 : decode cX2_mirroredPlaces 0 = .ok (.iconst 0, 1) := by decide +kernel
theorem dX2_mirroredPlaces_1 : decode cX2_mirroredPlaces 1 = .ok (.istore_n 1, 1) := by decide +kernel
theorem dX2_mirroredPlaces_2 : decode cX2_mirroredPlaces 2 = .ok (.iconst 0, 1) := by decide +kernel
theorem dX2_mirroredPlaces_3 : decode cX2_mirroredPlaces 3 = .ok (.istore_n 2, 1) := by decide +kernel
theorem dX2_mirroredPlaces_4 : decode cX2_mirroredPlaces 4 = .ok (.iload_n 2, 1) := by decide +kernel
theorem dX2_mirroredPlaces_5 : decode cX2_mirroredPlaces 5 = .ok (.aload_n 0, 1) := by decide +kernel
theorem dX2_mirroredPlaces_6 : decode cX2_mirroredPlaces 6 = .ok (.getfield 15, 3) := by decide +kernel
theorem dX2_mirroredPlaces_9 : decode cX2_mirroredPlaces 9 = .ok (.if_icmp .ge 34, 3) := by decide +kernel
theorem dX2_mirroredPlaces_12 : decode cX2_mirroredPlaces 12 = .ok (.aload_n 0, 1) := by decide +kernel
theorem dX2_mirroredPlaces_13 : decode cX2_mirroredPlaces 13 = .ok (.getfield 9, 3) := by decide +kernel
theorem dX2_mirroredPlaces_16 : decode cX2_mirroredPlaces 16 = .ok (.iload_n 2, 1) := by decide +kernel
theorem dX2_mirroredPlaces_17 : decode cX2_mirroredPlaces 17 = .ok (.iaload, 1) := by decide +kernel
theorem dX2_mirroredPlaces_18 : decode cX2_mirroredPlaces 18 = .ok (.aload_n 0, 1) := by decide +kernel
theorem dX2_mirroredPlaces_19 : decode cX2_mirroredPlaces 19 = .ok (.getfield 9, 3) := by decide +kernel
theorem dX2_mirroredPlaces_22 : decode cX2_mirroredPlaces 22 = .ok (.aload_n 0, 1) := by decide +kernel
theorem dX2_mirroredPlaces_23 : decode cX2_mirroredPlaces 23 = .ok (.getfield 15, 3) := by decide +kernel
theorem dX2_mirroredPlaces_26 : decode cX2_mirroredPlaces 26 = .ok (.iconst 1, 1) := by decide +kernel
theorem dX2_mirroredPlaces_27 : decode cX2_mirroredPlaces 27 = .ok (.isub, 1) := by decide +kernel
theorem dX2_mirroredPlaces_28 : decode cX2_mirroredPlaces 28 = .ok (.iload_n 2, 1) := by decide +kernel
theorem dX2_mirroredPlaces_29 : decode cX2_mirroredPlaces 29 = .ok (.isub, 1) := by decide +kernel
theorem dX2_mirroredPlaces_30 : decode cX2_mirroredPlaces 30 = .ok (.iaload, 1) := by decide +kernel
theorem dX2_mirroredPlaces_31 : decode cX2_mirroredPlaces 31 = .ok (.if_icmp .ne 6, 3) := by decide +kernel
theorem dX2_mirroredPlaces_34 : decode cX2_mirroredPlaces 34 = .ok (.iinc 1 1, 3) := by decide +kernel
theorem dX2_mirroredPlaces_37 : decode cX2_mirroredPlaces 37 = .ok (.iinc 2 1, 3) := by decide +kernel
theorem dX2_mirroredPlaces_40 : decode cX2_mirroredPlaces 40 = .ok (.goto (-36), 3) := by decide +kernel
theorem dX2_mirroredPlaces_43 : decode cX2_mirroredPlaces 43 = .ok (.iload_n 1, 1) := by decide +kernel
theorem dX2_mirroredPlaces_44 : decode cX2_mirroredPlaces 44 = .ok (.ireturn, 1) := by decide +kernel
theorem dX2_alikeShifts_0 : decode cX2_alikeShifts 0 = .ok (.iconst 0, 1) := by decide +kernel
theorem dX2_alikeShifts_1 : decode cX2_alikeShifts 1 = .ok (.istore_n 1, 1) := by decide +kernel
theorem dX2_alikeShifts_2 : decode cX2_alikeShifts 2 = .ok (.iconst 0, 1) := by decide +kernel
theorem dX2_alikeShifts_3 : decode cX2_alikeShifts 3 = .ok (.istore_n 2, 1) := by decide +kernel
theorem dX2_alikeShifts_4 : decode cX2_alikeShifts 4 = .ok (.iload_n 2, 1) := by decide +kernel
theorem dX2_alikeShifts_5 : decode cX2_alikeShifts 5 = .ok (.aload_n 0, 1) := by decide +kernel
theorem dX2_alikeShifts_6 : decode cX2_alikeShifts 6 = .ok (.getfield 15, 3) := by decide +kernel
theorem dX2_alikeShifts_9 : decode cX2_alikeShifts 9 = .ok (.if_icmp .ge 48, 3) := by decide +kernel
theorem dX2_alikeShifts_12 : decode cX2_alikeShifts 12 = .ok (.iconst 0, 1) := by decide +kernel
theorem dX2_alikeShifts_13 : decode cX2_alikeShifts 13 = .ok (.istore_n 3, 1) := by decide +kernel
theorem dX2_alikeShifts_14 : decode cX2_alikeShifts 14 = .ok (.iload_n 3, 1) := by decide +kernel
theorem dX2_alikeShifts_15 : decode cX2_alikeShifts 15 = .ok (.aload_n 0, 1) := by decide +kernel
theorem dX2_alikeShifts_16 : decode cX2_alikeShifts 16 = .ok (.getfield 15, 3) := by decide +kernel
theorem dX2_alikeShifts_19 : decode cX2_alikeShifts 19 = .ok (.if_icmp .ge 32, 3) := by decide +kernel
theorem dX2_alikeShifts_22 : decode cX2_alikeShifts 22 = .ok (.iload_n 2, 1) := by decide +kernel
theorem dX2_alikeShifts_23 : decode cX2_alikeShifts 23 = .ok (.iload_n 3, 1) := by decide +kernel
theorem dX2_alikeShifts_24 : decode cX2_alikeShifts 24 = .ok (.if_icmp .eq 21, 3) := by decide +kernel
theorem dX2_alikeShifts_27 : decode cX2_alikeShifts 27 = .ok (.aload_n 0, 1) := by decide +kernel
theorem dX2_alikeShifts_28 : decode cX2_alikeShifts 28 = .ok (.getfield 9, 3) := by decide +kernel
theorem dX2_alikeShifts_31 : decode cX2_alikeShifts 31 = .ok (.iload_n 2, 1) := by decide +kernel
theorem dX2_alikeShifts_32 : decode cX2_alikeShifts 32 = .ok (.iaload, 1) := by decide +kernel
theorem dX2_alikeShifts_33 : decode cX2_alikeShifts 33 = .ok (.aload_n 0, 1) := by decide +kernel
theorem dX2_alikeShifts_34 : decode cX2_alikeShifts 34 = .ok (.getfield 9, 3) := by decide +kernel
theorem dX2_alikeShifts_37 : decode cX2_alikeShifts 37 = .ok (.iload_n 3, 1) := by decide +kernel
theorem dX2_alikeShifts_38 : decode cX2_alikeShifts 38 = .ok (.iaload, 1) := by decide +kernel
theorem dX2_alikeShifts_39 : decode cX2_alikeShifts 39 = .ok (.if_icmp .ne 6, 3) := by decide +kernel
theorem dX2_alikeShifts_42 : decode cX2_alikeShifts 42 = .ok (.iinc 1 1, 3) := by decide +kernel
theorem dX2_alikeShifts_45 : decode cX2_alikeShifts 45 = .ok (.iinc 3 1, 3) := by decide +kernel
theorem dX2_alikeShifts_48 : decode cX2_alikeShifts 48 = .ok (.goto (-34), 3) := by decide +kernel
theorem dX2_alikeShifts_51 : decode cX2_alikeShifts 51 = .ok (.iinc 2 1, 3) := by decide +kernel
theorem dX2_alikeShifts_54 : decode cX2_alikeShifts 54 = .ok (.goto (-50), 3) := by decide +kernel
theorem dX2_alikeShifts_57 : decode cX2_alikeShifts 57 = .ok (.iload_n 1, 1) := by decide +kernel
theorem dX2_alikeShifts_58 : decode cX2_alikeShifts 58 = .ok (.ireturn, 1) := by decide +kernel
theorem dX3_init_0 : decode cX3_init 0 = .ok (.aload_n 0, 1) := by decide +kernel
theorem dX3_init_1 : decode cX3_init 1 = .ok (.invokespecial 3, 3) := by decide +kernel
theorem dX3_init_4 : decode cX3_init 4 = .ok (.aload_n 0, 1) := by decide +kernel
theorem dX3_init_5 : decode cX3_init 5 = .ok (.iconst 0, 1) := by decide +kernel
theorem dX3_init_6 : decode cX3_init 6 = .ok (.putfield 9, 3) := by decide +kernel
theorem dX3_init_9 : decode cX3_init 9 = .ok (.return_, 1) := by decide +kernel
theorem dX3_at_0 : decode cX3_at 0 = .ok (.aload_n 0, 1) := by decide +kernel
theorem dX3_at_1 : decode cX3_at 1 = .ok (.getfield 9, 3) := by decide +kernel
theorem dX3_at_4 : decode cX3_at 4 = .ok (.iload_n 1, 1) := by decide +kernel
theorem dX3_at_5 : decode cX3_at 5 = .ok (.ishr, 1) := by decide +kernel
theorem dX3_at_6 : decode cX3_at 6 = .ok (.iconst 1, 1) := by decide +kernel
theorem dX3_at_7 : decode cX3_at 7 = .ok (.iand, 1) := by decide +kernel
theorem dX3_at_8 : decode cX3_at 8 = .ok (.ireturn, 1) := by decide +kernel
theorem dX3_put_0 : decode cX3_put 0 = .ok (.aload_n 0, 1) := by decide +kernel
theorem dX3_put_1 : decode cX3_put 1 = .ok (.aload_n 0, 1) := by decide +kernel
theorem dX3_put_2 : decode cX3_put 2 = .ok (.getfield 9, 3) := by decide +kernel
theorem dX3_put_5 : decode cX3_put 5 = .ok (.iconst 1, 1) := by decide +kernel
theorem dX3_put_6 : decode cX3_put 6 = .ok (.iload_n 1, 1) := by decide +kernel
theorem dX3_put_7 : decode cX3_put 7 = .ok (.ishl, 1) := by decide +kernel
theorem dX3_put_8 : decode cX3_put 8 = .ok (.iconst (-1), 1) := by decide +kernel
theorem dX3_put_9 : decode cX3_put 9 = .ok (.ixor, 1) := by decide +kernel
theorem dX3_put_10 : decode cX3_put 10 = .ok (.iand, 1) := by decide +kernel
theorem dX3_put_11 : decode cX3_put 11 = .ok (.iload_n 2, 1) := by decide +kernel
theorem dX3_put_12 : decode cX3_put 12 = .ok (.iload_n 1, 1) := by decide +kernel
theorem dX3_put_13 : decode cX3_put 13 = .ok (.ishl, 1) := by decide +kernel
theorem dX3_put_14 : decode cX3_put 14 = .ok (.ior, 1) := by decide +kernel
theorem dX3_put_15 : decode cX3_put 15 = .ok (.putfield 9, 3) := by decide +kernel
theorem dX3_put_18 : decode cX3_put 18 = .ok (.return_, 1) := by decide +kernel
set_option maxRecDepth 20000 in
theorem ggX3_parities_J6_bitCount_0f7a4 : GoodIn wsX3_parities wsJ6_bitCount_0f7a4 := goodIn_r _ [4, 5, 6, 7] (by decide +kernel) (by decide +kernel)
set_option maxRecDepth 20000 in
theorem gX3_parities_J6_bitCount_0f7a4 : GoodIn wsX3_parities (va_wsS RX3 15 yJ6_bitCount_0f7a4 wsJ6_bitCount_0f7a4) := goodIn_app (goodIn_of _ (by decide +kernel)) ggX3_parities_J6_bitCount_0f7a4
theorem dX3_parities_0 : decode cX3_parities 0 = .ok (.iconst 0, 1) := by decide +kernel
theorem dX3_parities_1 : decode cX3_parities 1 = .ok (.istore_n 1, 1) := by decide +kernel
theorem dX3_parities_2 : decode cX3_parities 2 = .ok (.iconst 0, 1) := by decide +kernel
theorem dX3_parities_3 : decode cX3_parities 3 = .ok (.istore_n 2, 1) := by decide +kernel
theorem dX3_parities_4 : decode cX3_parities 4 = .ok (.iload_n 2, 1) := by decide +kernel
theorem dX3_parities_5 : decode cX3_parities 5 = .ok (.bipush 8, 2) := by decide +kernel
theorem dX3_parities_7 : decode cX3_parities 7 = .ok (.if_icmp .ge 22, 3) := by decide +kernel
theorem dX3_parities_10 : decode cX3_parities 10 = .ok (.iload_n 1, 1) := by decide +kernel
theorem dX3_parities_11 : decode cX3_parities 11 = .ok (.iload_n 0, 1) := by decide +kernel
theorem dX3_parities_12 : decode cX3_parities 12 = .ok (.iload_n 2, 1) := by decide +kernel
theorem dX3_parities_13 : decode cX3_parities 13 = .ok (.iand, 1) := by decide +kernel
theorem dX3_parities_14 : decode cX3_parities 14 = .ok (.invokestatic 15, 3) := by decide +kernel
theorem dX3_parities_17 : decode cX3_parities 17 = .ok (.iconst 1, 1) := by decide +kernel
theorem dX3_parities_18 : decode cX3_parities 18 = .ok (.iand, 1) := by decide +kernel
theorem dX3_parities_19 : decode cX3_parities 19 = .ok (.iload_n 2, 1) := by decide +kernel
theorem dX3_parities_20 : decode cX3_parities 20 = .ok (.ishl, 1) := by decide +kernel
theorem dX3_parities_21 : decode cX3_parities 21 = .ok (.ior, 1) := by decide +kernel
theorem dX3_parities_22 : decode cX3_parities 22 = .ok (.istore_n 1, 1) := by decide +kernel
theorem dX3_parities_23 : decode cX3_parities 23 = .ok (.iinc 2 1, 3) := by decide +kernel
theorem dX3_parities_26 : decode cX3_parities 26 = .ok (.goto (-22), 3) := by decide +kernel
theorem dX3_parities_29 : decode cX3_parities 29 = .ok (.iload_n 1, 1) := by decide +kernel
theorem dX3_parities_30 : decode cX3_parities 30 = .ok (.ireturn, 1) := by decide +kernel
set_option maxRecDepth 20000 in
theorem ggX3_differing_X3_parities : GoodIn wsX3_differing wsX3_parities := goodIn_r _ [5, 6, 7, 8, 9, 10, 11, 12] (by decide +kernel) (by decide +kernel)
set_option maxRecDepth 20000 in
theorem gX3_differing_X3_parities : GoodIn wsX3_differing (va_wsS RX3 21 yX3_parities wsX3_parities) := goodIn_app (goodIn_of _ (by decide +kernel)) ggX3_differing_X3_parities
set_option maxRecDepth 20000 in
theorem ggX3_differing_J6_bitCount_0f7a4 : GoodIn wsX3_differing wsJ6_bitCount_0f7a4 := goodIn_r _ [9, 10, 11, 12] (by decide +kernel) (by decide +kernel)
set_option maxRecDepth 20000 in
theorem gX3_differing_J6_bitCount_0f7a4 : GoodIn wsX3_differing (va_wsS RX3 15 yJ6_bitCount_0f7a4 wsJ6_bitCount_0f7a4) := goodIn_app (goodIn_of _ (by decide +kernel)) ggX3_differing_J6_bitCount_0f7a4
theorem dX3_differing_0 : decode cX3_differing 0 = .ok (.aload_n 0, 1) := by decide +kernel
theorem dX3_differing_1 : decode cX3_differing 1 = .ok (.getfield 9, 3) := by decide +kernel
theorem dX3_differing_4 : decode cX3_differing 4 = .ok (.iload_n 1, 1) := by decide +kernel
theorem dX3_differing_5 : decode cX3_differing 5 = .ok (.invokestatic 21, 3) := by decide +kernel
theorem dX3_differing_8 : decode cX3_differing 8 = .ok (.ixor, 1) := by decide +kernel
theorem dX3_differing_9 : decode cX3_differing 9 = .ok (.invokestatic 15, 3) := by decide +kernel
theorem dX3_differing_12 : decode cX3_differing 12 = .ok (.ireturn, 1) := by decide +kernel
set_option maxRecDepth 20000 in
theorem ggX3_closest_X3_differing : GoodIn wsX3_closest wsX3_differing := goodIn_r _ [5, 6, 7, 8, 4, 9, 10, 11, 12, 13, 14, 15, 16, 17] (by decide +kernel) (by decide +kernel)
set_option maxRecDepth 20000 in
theorem gX3_closest_X3_differing : GoodIn wsX3_closest (wsV RX3 24 RX3 yX3_differing wsX3_differing) := goodIn_app (goodIn_of _ (by decide +kernel)) ggX3_closest_X3_differing
theorem dX3_closest_0 : decode cX3_closest 0 = .ok (.iconst 0, 1) := by decide +kernel
theorem dX3_closest_1 : decode cX3_closest 1 = .ok (.istore_n 1, 1) := by decide +kernel
theorem dX3_closest_2 : decode cX3_closest 2 = .ok (.iconst 1, 1) := by decide +kernel
theorem dX3_closest_3 : decode cX3_closest 3 = .ok (.istore_n 2, 1) := by decide +kernel
theorem dX3_closest_4 : decode cX3_closest 4 = .ok (.iload_n 2, 1) := by decide +kernel
theorem dX3_closest_5 : decode cX3_closest 5 = .ok (.bipush 8, 2) := by decide +kernel
theorem dX3_closest_7 : decode cX3_closest 7 = .ok (.if_icmp .ge 24, 3) := by decide +kernel
theorem dX3_closest_10 : decode cX3_closest 10 = .ok (.aload_n 0, 1) := by decide +kernel
theorem dX3_closest_11 : decode cX3_closest 11 = .ok (.iload_n 2, 1) := by decide +kernel
theorem dX3_closest_12 : decode cX3_closest 12 = .ok (.invokevirtual 24, 3) := by decide +kernel
theorem dX3_closest_15 : decode cX3_closest 15 = .ok (.aload_n 0, 1) := by decide +kernel
theorem dX3_closest_16 : decode cX3_closest 16 = .ok (.iload_n 1, 1) := by decide +kernel
theorem dX3_closest_17 : decode cX3_closest 17 = .ok (.invokevirtual 24, 3) := by decide +kernel
theorem dX3_closest_20 : decode cX3_closest 20 = .ok (.if_icmp .ge 5, 3) := by decide +kernel
theorem dX3_closest_23 : decode cX3_closest 23 = .ok (.iload_n 2, 1) := by decide +kernel
theorem dX3_closest_24 : decode cX3_closest 24 = .ok (.istore_n 1, 1) := by decide +kernel
theorem dX3_closest_25 : decode cX3_closest 25 = .ok (.iinc 2 1, 3) := by decide +kernel
theorem dX3_closest_28 : decode cX3_closest 28 = .ok (.goto (-24), 3) := by decide +kernel
theorem dX3_closest_31 : decode cX3_closest 31 = .ok (.iload_n 1, 1) := by decide +kernel
theorem dX3_closest_32 : decode cX3_closest 32 = .ok (.ireturn, 1) := by decide +kernel
set_option maxRecDepth 20000 in
theorem ggX3_agrees_X3_at : GoodIn wsX3_agrees wsX3_at := goodIn_r _ [5, 6, 7] (by decide +kernel) (by decide +kernel)
set_option maxRecDepth 20000 in
theorem gX3_agrees_X3_at : GoodIn wsX3_agrees (wsV RX3 27 RX3 yX3_at wsX3_at) := goodIn_app (goodIn_of _ (by decide +kernel)) ggX3_agrees_X3_at
theorem dX3_agrees_0 : decode cX3_agrees 0 = .ok (.aload_n 0, 1) := by decide +kernel
theorem dX3_agrees_1 : decode cX3_agrees 1 = .ok (.iload_n 1, 1) := by decide +kernel
theorem dX3_agrees_2 : decode cX3_agrees 2 = .ok (.invokevirtual 27, 3) := by decide +kernel
theorem dX3_agrees_5 : decode cX3_agrees 5 = .ok (.aload_n 0, 1) := by decide +kernel
theorem dX3_agrees_6 : decode cX3_agrees 6 = .ok (.iload_n 2, 1) := by decide +kernel
theorem dX3_agrees_7 : decode cX3_agrees 7 = .ok (.invokevirtual 27, 3) := by decide +kernel
theorem dX3_agrees_10 : decode cX3_agrees 10 = .ok (.ixor, 1) := by decide +kernel
theorem dX3_agrees_11 : decode cX3_agrees 11 = .ok (.aload_n 0, 1) := by decide +kernel
theorem dX3_agrees_12 : decode cX3_agrees 12 = .ok (.iload_n 1, 1) := by decide +kernel
theorem dX3_agrees_13 : decode cX3_agrees 13 = .ok (.iload_n 2, 1) := by decide +kernel
theorem dX3_agrees_14 : decode cX3_agrees 14 = .ok (.ixor, 1) := by decide +kernel
theorem dX3_agrees_15 : decode cX3_agrees 15 = .ok (.invokevirtual 27, 3) := by decide +kernel
theorem dX3_agrees_18 : decode cX3_agrees 18 = .ok (.if_icmp .ne 7, 3) := by decide +kernel
theorem dX3_agrees_21 : decode cX3_agrees 21 = .ok (.iconst 1, 1) := by decide +kernel
theorem dX3_agrees_22 : decode cX3_agrees 22 = .ok (.goto 4, 3) := by decide +kernel
theorem dX3_agrees_25 : decode cX3_agrees 25 = .ok (.iconst 0, 1) := by decide +kernel
theorem dX3_agrees_26 : decode cX3_agrees 26 = .ok (.ireturn, 1) := by decide +kernel
set_option maxRecDepth 20000 in
theorem ggX3_passing_X3_agrees : GoodIn wsX3_passing wsX3_agrees := goodIn_r _ [5, 6, 7, 8, 4, 9, 10, 11] (by decide +kernel) (by decide +kernel)
set_option maxRecDepth 20000 in
theorem gX3_passing_X3_agrees : GoodIn wsX3_passing (wsV RX3 30 RX3 yX3_agrees wsX3_agrees) := goodIn_app (goodIn_of _ (by decide +kernel)) ggX3_passing_X3_agrees
theorem dX3_passing_0 : decode cX3_passing 0 = .ok (.iconst 0, 1) := by decide +kernel
theorem dX3_passing_1 : decode cX3_passing 1 = .ok (.istore_n 1, 1) := by decide +kernel
theorem dX3_passing_2 : decode cX3_passing 2 = .ok (.iconst 0, 1) := by decide +kernel
theorem dX3_passing_3 : decode cX3_passing 3 = .ok (.istore_n 2, 1) := by decide +kernel
theorem dX3_passing_4 : decode cX3_passing 4 = .ok (.iload_n 2, 1) := by decide +kernel
theorem dX3_passing_5 : decode cX3_passing 5 = .ok (.bipush 8, 2) := by decide +kernel
theorem dX3_passing_7 : decode cX3_passing 7 = .ok (.if_icmp .ge 35, 3) := by decide +kernel
theorem dX3_passing_10 : decode cX3_passing 10 = .ok (.iconst 0, 1) := by decide +kernel
theorem dX3_passing_11 : decode cX3_passing 11 = .ok (.istore_n 3, 1) := by decide +kernel
theorem dX3_passing_12 : decode cX3_passing 12 = .ok (.iload_n 3, 1) := by decide +kernel
theorem dX3_passing_13 : decode cX3_passing 13 = .ok (.bipush 8, 2) := by decide +kernel
theorem dX3_passing_15 : decode cX3_passing 15 = .ok (.if_icmp .ge 21, 3) := by decide +kernel
theorem dX3_passing_18 : decode cX3_passing 18 = .ok (.aload_n 0, 1) := by decide +kernel
theorem dX3_passing_19 : decode cX3_passing 19 = .ok (.iload_n 2, 1) := by decide +kernel
theorem dX3_passing_20 : decode cX3_passing 20 = .ok (.iload_n 3, 1) := by decide +kernel
theorem dX3_passing_21 : decode cX3_passing 21 = .ok (.invokevirtual 30, 3) := by decide +kernel
theorem dX3_passing_24 : decode cX3_passing 24 = .ok (.ifCond .eq 6, 3) := by decide +kernel
theorem dX3_passing_27 : decode cX3_passing 27 = .ok (.iinc 1 1, 3) := by decide +kernel
theorem dX3_passing_30 : decode cX3_passing 30 = .ok (.iinc 3 1, 3) := by decide +kernel
theorem dX3_passing_33 : decode cX3_passing 33 = .ok (.goto (-21), 3) := by decide +kernel
theorem dX3_passing_36 : decode cX3_passing 36 = .ok (.iinc 2 1, 3) := by decide +kernel
theorem dX3_passing_39 : decode cX3_passing 39 = .ok (.goto (-35), 3) := by decide +kernel
theorem dX3_passing_42 : decode cX3_passing 42 = .ok (.iload_n 1, 1) := by decide +kernel
theorem dX3_passing_43 : decode cX3_passing 43 = .ok (.ireturn, 1) := by decide +kernel
set_option maxRecDepth 20000 in
theorem ggX3_tellers_X3_at : GoodIn wsX3_tellers wsX3_at := goodIn_r _ [5, 6, 7] (by decide +kernel) (by decide +kernel)
set_option maxRecDepth 20000 in
theorem gX3_tellers_X3_at : GoodIn wsX3_tellers (wsV RX3 27 RX3 yX3_at wsX3_at) := goodIn_app (goodIn_of _ (by decide +kernel)) ggX3_tellers_X3_at
theorem dX3_tellers_0 : decode cX3_tellers 0 = .ok (.iconst 0, 1) := by decide +kernel
theorem dX3_tellers_1 : decode cX3_tellers 1 = .ok (.istore_n 3, 1) := by decide +kernel
theorem dX3_tellers_2 : decode cX3_tellers 2 = .ok (.iconst 0, 1) := by decide +kernel
theorem dX3_tellers_3 : decode cX3_tellers 3 = .ok (.istore 4, 2) := by decide +kernel
theorem dX3_tellers_5 : decode cX3_tellers 5 = .ok (.iload 4, 2) := by decide +kernel
theorem dX3_tellers_7 : decode cX3_tellers 7 = .ok (.bipush 8, 2) := by decide +kernel
theorem dX3_tellers_9 : decode cX3_tellers 9 = .ok (.if_icmp .ge 31, 3) := by decide +kernel
theorem dX3_tellers_12 : decode cX3_tellers 12 = .ok (.aload_n 0, 1) := by decide +kernel
theorem dX3_tellers_13 : decode cX3_tellers 13 = .ok (.iload 4, 2) := by decide +kernel
theorem dX3_tellers_15 : decode cX3_tellers 15 = .ok (.invokevirtual 27, 3) := by decide +kernel
theorem dX3_tellers_18 : decode cX3_tellers 18 = .ok (.aload_n 0, 1) := by decide +kernel
theorem dX3_tellers_19 : decode cX3_tellers 19 = .ok (.iload_n 1, 1) := by decide +kernel
theorem dX3_tellers_20 : decode cX3_tellers 20 = .ok (.iload 4, 2) := by decide +kernel
theorem dX3_tellers_22 : decode cX3_tellers 22 = .ok (.ixor, 1) := by decide +kernel
theorem dX3_tellers_23 : decode cX3_tellers 23 = .ok (.invokevirtual 27, 3) := by decide +kernel
theorem dX3_tellers_26 : decode cX3_tellers 26 = .ok (.ixor, 1) := by decide +kernel
theorem dX3_tellers_27 : decode cX3_tellers 27 = .ok (.iload_n 2, 1) := by decide +kernel
theorem dX3_tellers_28 : decode cX3_tellers 28 = .ok (.if_icmp .ne 6, 3) := by decide +kernel
theorem dX3_tellers_31 : decode cX3_tellers 31 = .ok (.iinc 3 1, 3) := by decide +kernel
theorem dX3_tellers_34 : decode cX3_tellers 34 = .ok (.iinc 4 1, 3) := by decide +kernel
theorem dX3_tellers_37 : decode cX3_tellers 37 = .ok (.goto (-32), 3) := by decide +kernel
theorem dX3_tellers_40 : decode cX3_tellers 40 = .ok (.iload_n 3, 1) := by decide +kernel
theorem dX3_tellers_41 : decode cX3_tellers 41 = .ok (.ireturn, 1) := by decide +kernel
theorem dJ6_bitCount_0f7a4_0 : decode cJ6_bitCount_0f7a4 0 = .ok (.iload_n 0, 1) := by decide +kernel
theorem dJ6_bitCount_0f7a4_1 : decode cJ6_bitCount_0f7a4 1 = .ok (.iload_n 0, 1) := by decide +kernel
theorem dJ6_bitCount_0f7a4_2 : decode cJ6_bitCount_0f7a4 2 = .ok (.iconst 1, 1) := by decide +kernel
theorem dJ6_bitCount_0f7a4_3 : decode cJ6_bitCount_0f7a4 3 = .ok (.iushr, 1) := by decide +kernel
theorem dJ6_bitCount_0f7a4_4 : decode cJ6_bitCount_0f7a4 4 = .ok (.ldc_w 265, 3) := by decide +kernel
theorem dJ6_bitCount_0f7a4_7 : decode cJ6_bitCount_0f7a4 7 = .ok (.iand, 1) := by decide +kernel
theorem dJ6_bitCount_0f7a4_8 : decode cJ6_bitCount_0f7a4 8 = .ok (.isub, 1) := by decide +kernel
theorem dJ6_bitCount_0f7a4_9 : decode cJ6_bitCount_0f7a4 9 = .ok (.istore_n 0, 1) := by decide +kernel
theorem dJ6_bitCount_0f7a4_10 : decode cJ6_bitCount_0f7a4 10 = .ok (.iload_n 0, 1) := by decide +kernel
theorem dJ6_bitCount_0f7a4_11 : decode cJ6_bitCount_0f7a4 11 = .ok (.ldc_w 266, 3) := by decide +kernel
theorem dJ6_bitCount_0f7a4_14 : decode cJ6_bitCount_0f7a4 14 = .ok (.iand, 1) := by decide +kernel
theorem dJ6_bitCount_0f7a4_15 : decode cJ6_bitCount_0f7a4 15 = .ok (.iload_n 0, 1) := by decide +kernel
theorem dJ6_bitCount_0f7a4_16 : decode cJ6_bitCount_0f7a4 16 = .ok (.iconst 2, 1) := by decide +kernel
theorem dJ6_bitCount_0f7a4_17 : decode cJ6_bitCount_0f7a4 17 = .ok (.iushr, 1) := by decide +kernel
theorem dJ6_bitCount_0f7a4_18 : decode cJ6_bitCount_0f7a4 18 = .ok (.ldc_w 266, 3) := by decide +kernel
theorem dJ6_bitCount_0f7a4_21 : decode cJ6_bitCount_0f7a4 21 = .ok (.iand, 1) := by decide +kernel
theorem dJ6_bitCount_0f7a4_22 : decode cJ6_bitCount_0f7a4 22 = .ok (.iadd, 1) := by decide +kernel
theorem dJ6_bitCount_0f7a4_23 : decode cJ6_bitCount_0f7a4 23 = .ok (.istore_n 0, 1) := by decide +kernel
theorem dJ6_bitCount_0f7a4_24 : decode cJ6_bitCount_0f7a4 24 = .ok (.iload_n 0, 1) := by decide +kernel
theorem dJ6_bitCount_0f7a4_25 : decode cJ6_bitCount_0f7a4 25 = .ok (.iload_n 0, 1) := by decide +kernel
theorem dJ6_bitCount_0f7a4_26 : decode cJ6_bitCount_0f7a4 26 = .ok (.iconst 4, 1) := by decide +kernel
theorem dJ6_bitCount_0f7a4_27 : decode cJ6_bitCount_0f7a4 27 = .ok (.iushr, 1) := by decide +kernel
theorem dJ6_bitCount_0f7a4_28 : decode cJ6_bitCount_0f7a4 28 = .ok (.iadd, 1) := by decide +kernel
theorem dJ6_bitCount_0f7a4_29 : decode cJ6_bitCount_0f7a4 29 = .ok (.ldc_w 267, 3) := by decide +kernel
theorem dJ6_bitCount_0f7a4_32 : decode cJ6_bitCount_0f7a4 32 = .ok (.iand, 1) := by decide +kernel
theorem dJ6_bitCount_0f7a4_33 : decode cJ6_bitCount_0f7a4 33 = .ok (.istore_n 0, 1) := by decide +kernel
theorem dJ6_bitCount_0f7a4_34 : decode cJ6_bitCount_0f7a4 34 = .ok (.iload_n 0, 1) := by decide +kernel
theorem dJ6_bitCount_0f7a4_35 : decode cJ6_bitCount_0f7a4 35 = .ok (.iload_n 0, 1) := by decide +kernel
theorem dJ6_bitCount_0f7a4_36 : decode cJ6_bitCount_0f7a4 36 = .ok (.bipush 8, 2) := by decide +kernel
theorem dJ6_bitCount_0f7a4_38 : decode cJ6_bitCount_0f7a4 38 = .ok (.iushr, 1) := by decide +kernel
theorem dJ6_bitCount_0f7a4_39 : decode cJ6_bitCount_0f7a4 39 = .ok (.iadd, 1) := by decide +kernel
theorem dJ6_bitCount_0f7a4_40 : decode cJ6_bitCount_0f7a4 40 = .ok (.istore_n 0, 1) := by decide +kernel
theorem dJ6_bitCount_0f7a4_41 : decode cJ6_bitCount_0f7a4 41 = .ok (.iload_n 0, 1) := by decide +kernel
theorem dJ6_bitCount_0f7a4_42 : decode cJ6_bitCount_0f7a4 42 = .ok (.iload_n 0, 1) := by decide +kernel
theorem dJ6_bitCount_0f7a4_43 : decode cJ6_bitCount_0f7a4 43 = .ok (.bipush 16, 2) := by decide +kernel
theorem dJ6_bitCount_0f7a4_45 : decode cJ6_bitCount_0f7a4 45 = .ok (.iushr, 1) := by decide +kernel
theorem dJ6_bitCount_0f7a4_46 : decode cJ6_bitCount_0f7a4 46 = .ok (.iadd, 1) := by decide +kernel
theorem dJ6_bitCount_0f7a4_47 : decode cJ6_bitCount_0f7a4 47 = .ok (.istore_n 0, 1) := by decide +kernel
theorem dJ6_bitCount_0f7a4_48 : decode cJ6_bitCount_0f7a4 48 = .ok (.iload_n 0, 1) := by decide +kernel
theorem dJ6_bitCount_0f7a4_49 : decode cJ6_bitCount_0f7a4 49 = .ok (.bipush 63, 2) := by decide +kernel
theorem dJ6_bitCount_0f7a4_51 : decode cJ6_bitCount_0f7a4 51 = .ok (.iand, 1) := by decide +kernel
theorem dJ6_bitCount_0f7a4_52 : decode cJ6_bitCount_0f7a4 52 = .ok (.ireturn, 1) := by decide +kernel
theorem dJ9_min_7cf53_0 : decode cJ9_min_7cf53 0 = .ok (.iload_n 0, 1) := by decide +kernel
theorem dJ9_min_7cf53_1 : decode cJ9_min_7cf53 1 = .ok (.iload_n 1, 1) := by decide +kernel
theorem dJ9_min_7cf53_2 : decode cJ9_min_7cf53 2 = .ok (.if_icmp .gt 7, 3) := by decide +kernel
theorem dJ9_min_7cf53_5 : decode cJ9_min_7cf53 5 = .ok (.iload_n 0, 1) := by decide +kernel
theorem dJ9_min_7cf53_6 : decode cJ9_min_7cf53 6 = .ok (.goto 4, 3) := by decide +kernel
theorem dJ9_min_7cf53_9 : decode cJ9_min_7cf53 9 = .ok (.iload_n 1, 1) := by decide +kernel
theorem dJ9_min_7cf53_10 : decode cJ9_min_7cf53 10 = .ok (.ireturn, 1) := by decide +kernel
