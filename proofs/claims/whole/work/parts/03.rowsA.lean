theorem dX2_init_0 : decode cX2_init 0 = .ok (.aload_n 0, 1) := by decide +kernel
theorem dX2_init_1 : decode cX2_init 1 = .ok (.invokespecial 3, 3) := by decide +kernel
theorem dX2_init_4 : decode cX2_init 4 = .ok (.aload_n 0, 1) := by decide +kernel
theorem dX2_init_5 : decode cX2_init 5 = .ok (.bipush 120, 2) := by decide +kernel
theorem dX2_init_7 : decode cX2_init 7 = .ok (.newarray .int, 2) := by decide +kernel
theorem dX2_init_9 : decode cX2_init 9 = .ok (.putfield 9, 3) := by decide +kernel
theorem dX2_init_12 : decode cX2_init 12 = .ok (.aload_n 0, 1) := by decide +kernel
theorem dX2_init_13 : decode cX2_init 13 = .ok (.bipush 120, 2) := by decide +kernel
theorem dX2_init_15 : decode cX2_init 15 = .ok (.newarray .int, 2) := by decide +kernel
theorem dX2_init_17 : decode cX2_init 17 = .ok (.putfield 15, 3) := by decide +kernel
theorem dX2_init_20 : decode cX2_init 20 = .ok (.aload_n 0, 1) := by decide +kernel
theorem dX2_init_21 : decode cX2_init 21 = .ok (.bipush 60, 2) := by decide +kernel
theorem dX2_init_23 : decode cX2_init 23 = .ok (.newarray .boolean, 2) := by decide +kernel
theorem dX2_init_25 : decode cX2_init 25 = .ok (.putfield 18, 3) := by decide +kernel
theorem dX2_init_28 : decode cX2_init 28 = .ok (.aload_n 0, 1) := by decide +kernel
theorem dX2_init_29 : decode cX2_init 29 = .ok (.iconst 0, 1) := by decide +kernel
theorem dX2_init_30 : decode cX2_init 30 = .ok (.putfield 22, 3) := by decide +kernel
theorem dX2_init_33 : decode cX2_init 33 = .ok (.return_, 1) := by decide +kernel
theorem dX2_has_0 : decode cX2_has 0 = .ok (.iload_n 1, 1) := by decide +kernel
theorem dX2_has_1 : decode cX2_has 1 = .ok (.ifCond .lt 22, 3) := by decide +kernel
theorem dX2_has_4 : decode cX2_has 4 = .ok (.iload_n 1, 1) := by decide +kernel
theorem dX2_has_5 : decode cX2_has 5 = .ok (.bipush 60, 2) := by decide +kernel
theorem dX2_has_7 : decode cX2_has 7 = .ok (.if_icmp .ge 16, 3) := by decide +kernel
theorem dX2_has_10 : decode cX2_has 10 = .ok (.aload_n 0, 1) := by decide +kernel
theorem dX2_has_11 : decode cX2_has 11 = .ok (.getfield 18, 3) := by decide +kernel
theorem dX2_has_14 : decode cX2_has 14 = .ok (.iload_n 1, 1) := by decide +kernel
theorem dX2_has_15 : decode cX2_has 15 = .ok (.baload, 1) := by decide +kernel
theorem dX2_has_16 : decode cX2_has 16 = .ok (.ifCond .eq 7, 3) := by decide +kernel
theorem dX2_has_19 : decode cX2_has 19 = .ok (.iconst 1, 1) := by decide +kernel
theorem dX2_has_20 : decode cX2_has 20 = .ok (.goto 4, 3) := by decide +kernel
theorem dX2_has_23 : decode cX2_has 23 = .ok (.iconst 0, 1) := by decide +kernel
theorem dX2_has_24 : decode cX2_has 24 = .ok (.ireturn, 1) := by decide +kernel
theorem dX2_leastFree_0 : decode cX2_leastFree 0 = .ok (.iconst 0, 1) := by decide +kernel
theorem dX2_leastFree_1 : decode cX2_leastFree 1 = .ok (.istore_n 1, 1) := by decide +kernel
theorem dX2_leastFree_2 : decode cX2_leastFree 2 = .ok (.iload_n 1, 1) := by decide +kernel
theorem dX2_leastFree_3 : decode cX2_leastFree 3 = .ok (.bipush 60, 2) := by decide +kernel
theorem dX2_leastFree_5 : decode cX2_leastFree 5 = .ok (.if_icmp .ge 20, 3) := by decide +kernel
theorem dX2_leastFree_8 : decode cX2_leastFree 8 = .ok (.aload_n 0, 1) := by decide +kernel
theorem dX2_leastFree_9 : decode cX2_leastFree 9 = .ok (.getfield 18, 3) := by decide +kernel
theorem dX2_leastFree_12 : decode cX2_leastFree 12 = .ok (.iload_n 1, 1) := by decide +kernel
theorem dX2_leastFree_13 : decode cX2_leastFree 13 = .ok (.baload, 1) := by decide +kernel
theorem dX2_leastFree_14 : decode cX2_leastFree 14 = .ok (.ifCond .ne 5, 3) := by decide +kernel
theorem dX2_leastFree_17 : decode cX2_leastFree 17 = .ok (.iload_n 1, 1) := by decide +kernel
theorem dX2_leastFree_18 : decode cX2_leastFree 18 = .ok (.ireturn, 1) := by decide +kernel
theorem dX2_leastFree_19 : decode cX2_leastFree 19 = .ok (.iinc 1 1, 3) := by decide +kernel
theorem dX2_leastFree_22 : decode cX2_leastFree 22 = .ok (.goto (-20), 3) := by decide +kernel
theorem dX2_leastFree_25 : decode cX2_leastFree 25 = .ok (.iconst (-1), 1) := by decide +kernel
theorem dX2_leastFree_26 : decode cX2_leastFree 26 = .ok (.ireturn, 1) := by decide +kernel
theorem dX2_draw_0 : decode cX2_draw 0 = .ok (.aload_n 0, 1) := by decide +kernel
theorem dX2_draw_1 : decode cX2_draw 1 = .ok (.getfield 9, 3) := by decide +kernel
theorem dX2_draw_4 : decode cX2_draw 4 = .ok (.iconst 2, 1) := by decide +kernel
theorem dX2_draw_5 : decode cX2_draw 5 = .ok (.iload_n 1, 1) := by decide +kernel
theorem dX2_draw_6 : decode cX2_draw 6 = .ok (.imul, 1) := by decide +kernel
theorem dX2_draw_7 : decode cX2_draw 7 = .ok (.iload_n 2, 1) := by decide +kernel
theorem dX2_draw_8 : decode cX2_draw 8 = .ok (.iastore, 1) := by decide +kernel
theorem dX2_draw_9 : decode cX2_draw 9 = .ok (.aload_n 0, 1) := by decide +kernel
theorem dX2_draw_10 : decode cX2_draw 10 = .ok (.getfield 15, 3) := by decide +kernel
theorem dX2_draw_13 : decode cX2_draw 13 = .ok (.iconst 2, 1) := by decide +kernel
theorem dX2_draw_14 : decode cX2_draw 14 = .ok (.iload_n 1, 1) := by decide +kernel
theorem dX2_draw_15 : decode cX2_draw 15 = .ok (.imul, 1) := by decide +kernel
theorem dX2_draw_16 : decode cX2_draw 16 = .ok (.iload_n 3, 1) := by decide +kernel
theorem dX2_draw_17 : decode cX2_draw 17 = .ok (.iastore, 1) := by decide +kernel
theorem dX2_draw_18 : decode cX2_draw 18 = .ok (.aload_n 0, 1) := by decide +kernel
theorem dX2_draw_19 : decode cX2_draw 19 = .ok (.getfield 9, 3) := by decide +kernel
theorem dX2_draw_22 : decode cX2_draw 22 = .ok (.iconst 2, 1) := by decide +kernel
theorem dX2_draw_23 : decode cX2_draw 23 = .ok (.iload_n 1, 1) := by decide +kernel
theorem dX2_draw_24 : decode cX2_draw 24 = .ok (.imul, 1) := by decide +kernel
theorem dX2_draw_25 : decode cX2_draw 25 = .ok (.iconst 1, 1) := by decide +kernel
theorem dX2_draw_26 : decode cX2_draw 26 = .ok (.iadd, 1) := by decide +kernel
theorem dX2_draw_27 : decode cX2_draw 27 = .ok (.iload 4, 2) := by decide +kernel
theorem dX2_draw_29 : decode cX2_draw 29 = .ok (.iastore, 1) := by decide +kernel
theorem dX2_draw_30 : decode cX2_draw 30 = .ok (.aload_n 0, 1) := by decide +kernel
theorem dX2_draw_31 : decode cX2_draw 31 = .ok (.getfield 15, 3) := by decide +kernel
theorem dX2_draw_34 : decode cX2_draw 34 = .ok (.iconst 2, 1) := by decide +kernel
theorem dX2_draw_35 : decode cX2_draw 35 = .ok (.iload_n 1, 1) := by decide +kernel
theorem dX2_draw_36 : decode cX2_draw 36 = .ok (.imul, 1) := by decide +kernel
theorem dX2_draw_37 : decode cX2_draw 37 = .ok (.iconst 1, 1) := by decide +kernel
theorem dX2_draw_38 : decode cX2_draw 38 = .ok (.iadd, 1) := by decide +kernel
theorem dX2_draw_39 : decode cX2_draw 39 = .ok (.iload 5, 2) := by decide +kernel
theorem dX2_draw_41 : decode cX2_draw 41 = .ok (.iastore, 1) := by decide +kernel
theorem dX2_draw_42 : decode cX2_draw 42 = .ok (.return_, 1) := by decide +kernel
theorem dX2_keep_0 : decode cX2_keep 0 = .ok (.aload_n 0, 1) := by decide +kernel
theorem dX2_keep_1 : decode cX2_keep 1 = .ok (.getfield 18, 3) := by decide +kernel
theorem dX2_keep_4 : decode cX2_keep 4 = .ok (.iload_n 1, 1) := by decide +kernel
theorem dX2_keep_5 : decode cX2_keep 5 = .ok (.iconst 1, 1) := by decide +kernel
theorem dX2_keep_6 : decode cX2_keep 6 = .ok (.bastore, 1) := by decide +kernel
theorem dX2_keep_7 : decode cX2_keep 7 = .ok (.aload_n 0, 1) := by decide +kernel
theorem dX2_keep_8 : decode cX2_keep 8 = .ok (.dup, 1) := by decide +kernel
theorem dX2_keep_9 : decode cX2_keep 9 = .ok (.getfield 22, 3) := by decide +kernel
theorem dX2_keep_12 : decode cX2_keep 12 = .ok (.iconst 1, 1) := by decide +kernel
theorem dX2_keep_13 : decode cX2_keep 13 = .ok (.iadd, 1) := by decide +kernel
theorem dX2_keep_14 : decode cX2_keep 14 = .ok (.putfield 22, 3) := by decide +kernel
theorem dX2_keep_17 : decode cX2_keep 17 = .ok (.return_, 1) := by decide +kernel
theorem dX2_drop_0 : decode cX2_drop 0 = .ok (.aload_n 0, 1) := by decide +kernel
theorem dX2_drop_1 : decode cX2_drop 1 = .ok (.getfield 18, 3) := by decide +kernel
theorem dX2_drop_4 : decode cX2_drop 4 = .ok (.iload_n 1, 1) := by decide +kernel
theorem dX2_drop_5 : decode cX2_drop 5 = .ok (.iconst 0, 1) := by decide +kernel
theorem dX2_drop_6 : decode cX2_drop 6 = .ok (.bastore, 1) := by decide +kernel
theorem dX2_drop_7 : decode cX2_drop 7 = .ok (.aload_n 0, 1) := by decide +kernel
theorem dX2_drop_8 : decode cX2_drop 8 = .ok (.dup, 1) := by decide +kernel
theorem dX2_drop_9 : decode cX2_drop 9 = .ok (.getfield 22, 3) := by decide +kernel
theorem dX2_drop_12 : decode cX2_drop 12 = .ok (.iconst 1, 1) := by decide +kernel
theorem dX2_drop_13 : decode cX2_drop 13 = .ok (.isub, 1) := by decide +kernel
theorem dX2_drop_14 : decode cX2_drop 14 = .ok (.putfield 22, 3) := by decide +kernel
theorem dX2_drop_17 : decode cX2_drop 17 = .ok (.return_, 1) := by decide +kernel
theorem dX2_dropAll_0 : decode cX2_dropAll 0 = .ok (.iconst 0, 1) := by decide +kernel
theorem dX2_dropAll_1 : decode cX2_dropAll 1 = .ok (.istore_n 1, 1) := by decide +kernel
theorem dX2_dropAll_2 : decode cX2_dropAll 2 = .ok (.iload_n 1, 1) := by decide +kernel
theorem dX2_dropAll_3 : decode cX2_dropAll 3 = .ok (.bipush 60, 2) := by decide +kernel
theorem dX2_dropAll_5 : decode cX2_dropAll 5 = .ok (.if_icmp .ge 16, 3) := by decide +kernel
theorem dX2_dropAll_8 : decode cX2_dropAll 8 = .ok (.aload_n 0, 1) := by decide +kernel
theorem dX2_dropAll_9 : decode cX2_dropAll 9 = .ok (.getfield 18, 3) := by decide +kernel
theorem dX2_dropAll_12 : decode cX2_dropAll 12 = .ok (.iload_n 1, 1) := by decide +kernel
theorem dX2_dropAll_13 : decode cX2_dropAll 13 = .ok (.iconst 0, 1) := by decide +kernel
theorem dX2_dropAll_14 : decode cX2_dropAll 14 = .ok (.bastore, 1) := by decide +kernel
theorem dX2_dropAll_15 : decode cX2_dropAll 15 = .ok (.iinc 1 1, 3) := by decide +kernel
theorem dX2_dropAll_18 : decode cX2_dropAll 18 = .ok (.goto (-16), 3) := by decide +kernel
theorem dX2_dropAll_21 : decode cX2_dropAll 21 = .ok (.aload_n 0, 1) := by decide +kernel
theorem dX2_dropAll_22 : decode cX2_dropAll 22 = .ok (.iconst 0, 1) := by decide +kernel
theorem dX2_dropAll_23 : decode cX2_dropAll 23 = .ok (.putfield 22, 3) := by decide +kernel
theorem dX2_dropAll_26 : decode cX2_dropAll 26 = .ok (.return_, 1) := by decide +kernel
set_option maxRecDepth 20000 in
theorem ggX2_clashes_X2_touches : GoodIn wsX2_clashes wsX2_touches := goodIn_r _ [6, 7, 8, 9, 10, 11, 5, 12, 13, 14, 15, 16, 33, 34, 35, 36] (by decide +kernel) (by decide +kernel)
set_option maxRecDepth 20000 in
theorem gX2_clashes_X2_touches : GoodIn wsX2_clashes (wsV RX2 26 RX2 yX2_touches wsX2_touches) := goodIn_app (goodIn_of _ (by decide +kernel)) ggX2_clashes_X2_touches
set_option maxRecDepth 20000 in
theorem ggX2_clashes_X2_sameEnds : GoodIn wsX2_clashes wsX2_sameEnds := goodIn_r _ [20, 21, 22, 23, 5, 24, 7, 8, 33, 34, 35, 36] (by decide +kernel) (by decide +kernel)
set_option maxRecDepth 20000 in
theorem gX2_clashes_X2_sameEnds : GoodIn wsX2_clashes (wsV RX2 30 RX2 yX2_sameEnds wsX2_sameEnds) := goodIn_app (goodIn_of _ (by decide +kernel)) ggX2_clashes_X2_sameEnds
set_option maxRecDepth 20000 in
theorem ggX2_clashes_X2_crosses : GoodIn wsX2_clashes wsX2_crosses := goodIn_r _ [28, 29, 30, 31, 5, 32, 7, 8, 13, 14, 15, 16, 33, 34, 35, 36] (by decide +kernel) (by decide +kernel)
set_option maxRecDepth 20000 in
theorem gX2_clashes_X2_crosses : GoodIn wsX2_clashes (wsV RX2 33 RX2 yX2_crosses wsX2_crosses) := goodIn_app (goodIn_of _ (by decide +kernel)) ggX2_clashes_X2_crosses
theorem dX2_clashes_0 : decode cX2_clashes 0 = .ok (.iconst 0, 1) := by decide +kernel
theorem dX2_clashes_1 : decode cX2_clashes 1 = .ok (.istore_n 2, 1) := by decide +kernel
theorem dX2_clashes_2 : decode cX2_clashes 2 = .ok (.iload_n 2, 1) := by decide +kernel
theorem dX2_clashes_3 : decode cX2_clashes 3 = .ok (.bipush 60, 2) := by decide +kernel
theorem dX2_clashes_5 : decode cX2_clashes 5 = .ok (.if_icmp .ge 56, 3) := by decide +kernel
theorem dX2_clashes_8 : decode cX2_clashes 8 = .ok (.aload_n 0, 1) := by decide +kernel
theorem dX2_clashes_9 : decode cX2_clashes 9 = .ok (.getfield 18, 3) := by decide +kernel
theorem dX2_clashes_12 : decode cX2_clashes 12 = .ok (.iload_n 2, 1) := by decide +kernel
theorem dX2_clashes_13 : decode cX2_clashes 13 = .ok (.baload, 1) := by decide +kernel
theorem dX2_clashes_14 : decode cX2_clashes 14 = .ok (.ifCond .eq 41, 3) := by decide +kernel
theorem dX2_clashes_17 : decode cX2_clashes 17 = .ok (.aload_n 0, 1) := by decide +kernel
theorem dX2_clashes_18 : decode cX2_clashes 18 = .ok (.iload_n 1, 1) := by decide +kernel
theorem dX2_clashes_19 : decode cX2_clashes 19 = .ok (.iload_n 2, 1) := by decide +kernel
theorem dX2_clashes_20 : decode cX2_clashes 20 = .ok (.invokevirtual 26, 3) := by decide +kernel
theorem dX2_clashes_23 : decode cX2_clashes 23 = .ok (.ifCond .ne 30, 3) := by decide +kernel
theorem dX2_clashes_26 : decode cX2_clashes 26 = .ok (.aload_n 0, 1) := by decide +kernel
theorem dX2_clashes_27 : decode cX2_clashes 27 = .ok (.iload_n 2, 1) := by decide +kernel
theorem dX2_clashes_28 : decode cX2_clashes 28 = .ok (.iload_n 1, 1) := by decide +kernel
theorem dX2_clashes_29 : decode cX2_clashes 29 = .ok (.invokevirtual 26, 3) := by decide +kernel
theorem dX2_clashes_32 : decode cX2_clashes 32 = .ok (.ifCond .ne 21, 3) := by decide +kernel
theorem dX2_clashes_35 : decode cX2_clashes 35 = .ok (.aload_n 0, 1) := by decide +kernel
theorem dX2_clashes_36 : decode cX2_clashes 36 = .ok (.iload_n 1, 1) := by decide +kernel
theorem dX2_clashes_37 : decode cX2_clashes 37 = .ok (.iload_n 2, 1) := by decide +kernel
theorem dX2_clashes_38 : decode cX2_clashes 38 = .ok (.invokevirtual 30, 3) := by decide +kernel
theorem dX2_clashes_41 : decode cX2_clashes 41 = .ok (.ifCond .ne 12, 3) := by decide +kernel
theorem dX2_clashes_44 : decode cX2_clashes 44 = .ok (.aload_n 0, 1) := by decide +kernel
theorem dX2_clashes_45 : decode cX2_clashes 45 = .ok (.iload_n 1, 1) := by decide +kernel
theorem dX2_clashes_46 : decode cX2_clashes 46 = .ok (.iload_n 2, 1) := by decide +kernel
theorem dX2_clashes_47 : decode cX2_clashes 47 = .ok (.invokevirtual 33, 3) := by decide +kernel
theorem dX2_clashes_50 : decode cX2_clashes 50 = .ok (.ifCond .eq 5, 3) := by decide +kernel
theorem dX2_clashes_53 : decode cX2_clashes 53 = .ok (.iconst 1, 1) := by decide +kernel
theorem dX2_clashes_54 : decode cX2_clashes 54 = .ok (.ireturn, 1) := by decide +kernel
theorem dX2_clashes_55 : decode cX2_clashes 55 = .ok (.iinc 2 1, 3) := by decide +kernel
theorem dX2_clashes_58 : decode cX2_clashes 58 = .ok (.goto (-56), 3) := by decide +kernel
theorem dX2_clashes_61 : decode cX2_clashes 61 = .ok (.iconst 0, 1) := by decide +kernel
theorem dX2_clashes_62 : decode cX2_clashes 62 = .ok (.ireturn, 1) := by decide +kernel
set_option maxRecDepth 20000 in
theorem ggX2_touches_X2_holds : GoodIn wsX2_touches wsX2_holds := goodIn_r _ [7, 1, 2, 8, 9, 10, 6, 11, 12, 13, 14, 15] (by decide +kernel) (by decide +kernel)
set_option maxRecDepth 20000 in
theorem gX2_touches_X2_holds : GoodIn wsX2_touches (wsV RX2 36 RX2 yX2_holds wsX2_holds) := goodIn_app (goodIn_of _ (by decide +kernel)) ggX2_touches_X2_holds
theorem dX2_touches_0 : decode cX2_touches 0 = .ok (.aload_n 0, 1) := by decide +kernel
theorem dX2_touches_1 : decode cX2_touches 1 = .ok (.iload_n 1, 1) := by decide +kernel
theorem dX2_touches_2 : decode cX2_touches 2 = .ok (.aload_n 0, 1) := by decide +kernel
theorem dX2_touches_3 : decode cX2_touches 3 = .ok (.getfield 9, 3) := by decide +kernel
theorem dX2_touches_6 : decode cX2_touches 6 = .ok (.iconst 2, 1) := by decide +kernel
theorem dX2_touches_7 : decode cX2_touches 7 = .ok (.iload_n 2, 1) := by decide +kernel
theorem dX2_touches_8 : decode cX2_touches 8 = .ok (.imul, 1) := by decide +kernel
theorem dX2_touches_9 : decode cX2_touches 9 = .ok (.iaload, 1) := by decide +kernel
theorem dX2_touches_10 : decode cX2_touches 10 = .ok (.aload_n 0, 1) := by decide +kernel
theorem dX2_touches_11 : decode cX2_touches 11 = .ok (.getfield 15, 3) := by decide +kernel
theorem dX2_touches_14 : decode cX2_touches 14 = .ok (.iconst 2, 1) := by decide +kernel
theorem dX2_touches_15 : decode cX2_touches 15 = .ok (.iload_n 2, 1) := by decide +kernel
theorem dX2_touches_16 : decode cX2_touches 16 = .ok (.imul, 1) := by decide +kernel
theorem dX2_touches_17 : decode cX2_touches 17 = .ok (.iaload, 1) := by decide +kernel
theorem dX2_touches_18 : decode cX2_touches 18 = .ok (.invokevirtual 36, 3) := by decide +kernel
theorem dX2_touches_21 : decode cX2_touches 21 = .ok (.ifCond .ne 31, 3) := by decide +kernel
theorem dX2_touches_24 : decode cX2_touches 24 = .ok (.aload_n 0, 1) := by decide +kernel
theorem dX2_touches_25 : decode cX2_touches 25 = .ok (.iload_n 1, 1) := by decide +kernel
theorem dX2_touches_26 : decode cX2_touches 26 = .ok (.aload_n 0, 1) := by decide +kernel
theorem dX2_touches_27 : decode cX2_touches 27 = .ok (.getfield 9, 3) := by decide +kernel
theorem dX2_touches_30 : decode cX2_touches 30 = .ok (.iconst 2, 1) := by decide +kernel
theorem dX2_touches_31 : decode cX2_touches 31 = .ok (.iload_n 2, 1) := by decide +kernel
theorem dX2_touches_32 : decode cX2_touches 32 = .ok (.imul, 1) := by decide +kernel
theorem dX2_touches_33 : decode cX2_touches 33 = .ok (.iconst 1, 1) := by decide +kernel
theorem dX2_touches_34 : decode cX2_touches 34 = .ok (.iadd, 1) := by decide +kernel
theorem dX2_touches_35 : decode cX2_touches 35 = .ok (.iaload, 1) := by decide +kernel
theorem dX2_touches_36 : decode cX2_touches 36 = .ok (.aload_n 0, 1) := by decide +kernel
theorem dX2_touches_37 : decode cX2_touches 37 = .ok (.getfield 15, 3) := by decide +kernel
theorem dX2_touches_40 : decode cX2_touches 40 = .ok (.iconst 2, 1) := by decide +kernel
theorem dX2_touches_41 : decode cX2_touches 41 = .ok (.iload_n 2, 1) := by decide +kernel
theorem dX2_touches_42 : decode cX2_touches 42 = .ok (.imul, 1) := by decide +kernel
theorem dX2_touches_43 : decode cX2_touches 43 = .ok (.iconst 1, 1) := by decide +kernel
theorem dX2_touches_44 : decode cX2_touches 44 = .ok (.iadd, 1) := by decide +kernel
theorem dX2_touches_45 : decode cX2_touches 45 = .ok (.iaload, 1) := by decide +kernel
theorem dX2_touches_46 : decode cX2_touches 46 = .ok (.invokevirtual 36, 3) := by decide +kernel
theorem dX2_touches_49 : decode cX2_touches 49 = .ok (.ifCond .eq 7, 3) := by decide +kernel
theorem dX2_touches_52 : decode cX2_touches 52 = .ok (.iconst 1, 1) := by decide +kernel
theorem dX2_touches_53 : decode cX2_touches 53 = .ok (.goto 4, 3) := by decide +kernel
theorem dX2_touches_56 : decode cX2_touches 56 = .ok (.iconst 0, 1) := by decide +kernel
theorem dX2_touches_57 : decode cX2_touches 57 = .ok (.ireturn, 1) := by decide +kernel
set_option maxRecDepth 20000 in
theorem ggX2_sameEnds_X2_sameBegin : GoodIn wsX2_sameEnds wsX2_sameBegin := goodIn_r _ [5, 6, 7, 8, 9, 10, 11] (by decide +kernel) (by decide +kernel)
set_option maxRecDepth 20000 in
theorem gX2_sameEnds_X2_sameBegin : GoodIn wsX2_sameEnds (wsV RX2 40 RX2 yX2_sameBegin wsX2_sameBegin) := goodIn_app (goodIn_of _ (by decide +kernel)) ggX2_sameEnds_X2_sameBegin
theorem dX2_sameEnds_0 : decode cX2_sameEnds 0 = .ok (.aload_n 0, 1) := by decide +kernel
theorem dX2_sameEnds_1 : decode cX2_sameEnds 1 = .ok (.iconst 2, 1) := by decide +kernel
theorem dX2_sameEnds_2 : decode cX2_sameEnds 2 = .ok (.iload_n 1, 1) := by decide +kernel
theorem dX2_sameEnds_3 : decode cX2_sameEnds 3 = .ok (.imul, 1) := by decide +kernel
theorem dX2_sameEnds_4 : decode cX2_sameEnds 4 = .ok (.iconst 2, 1) := by decide +kernel
theorem dX2_sameEnds_5 : decode cX2_sameEnds 5 = .ok (.iload_n 2, 1) := by decide +kernel
theorem dX2_sameEnds_6 : decode cX2_sameEnds 6 = .ok (.imul, 1) := by decide +kernel
theorem dX2_sameEnds_7 : decode cX2_sameEnds 7 = .ok (.invokevirtual 40, 3) := by decide +kernel
theorem dX2_sameEnds_10 : decode cX2_sameEnds 10 = .ok (.ifCond .eq 20, 3) := by decide +kernel
theorem dX2_sameEnds_13 : decode cX2_sameEnds 13 = .ok (.aload_n 0, 1) := by decide +kernel
theorem dX2_sameEnds_14 : decode cX2_sameEnds 14 = .ok (.iconst 2, 1) := by decide +kernel
theorem dX2_sameEnds_15 : decode cX2_sameEnds 15 = .ok (.iload_n 1, 1) := by decide +kernel
theorem dX2_sameEnds_16 : decode cX2_sameEnds 16 = .ok (.imul, 1) := by decide +kernel
theorem dX2_sameEnds_17 : decode cX2_sameEnds 17 = .ok (.iconst 1, 1) := by decide +kernel
theorem dX2_sameEnds_18 : decode cX2_sameEnds 18 = .ok (.iadd, 1) := by decide +kernel
theorem dX2_sameEnds_19 : decode cX2_sameEnds 19 = .ok (.iconst 2, 1) := by decide +kernel
theorem dX2_sameEnds_20 : decode cX2_sameEnds 20 = .ok (.iload_n 2, 1) := by decide +kernel
theorem dX2_sameEnds_21 : decode cX2_sameEnds 21 = .ok (.imul, 1) := by decide +kernel
theorem dX2_sameEnds_22 : decode cX2_sameEnds 22 = .ok (.iconst 1, 1) := by decide +kernel
theorem dX2_sameEnds_23 : decode cX2_sameEnds 23 = .ok (.iadd, 1) := by decide +kernel
theorem dX2_sameEnds_24 : decode cX2_sameEnds 24 = .ok (.invokevirtual 40, 3) := by decide +kernel
theorem dX2_sameEnds_27 : decode cX2_sameEnds 27 = .ok (.ifCond .ne 33, 3) := by decide +kernel
theorem dX2_sameEnds_30 : decode cX2_sameEnds 30 = .ok (.aload_n 0, 1) := by decide +kernel
theorem dX2_sameEnds_31 : decode cX2_sameEnds 31 = .ok (.iconst 2, 1) := by decide +kernel
theorem dX2_sameEnds_32 : decode cX2_sameEnds 32 = .ok (.iload_n 1, 1) := by decide +kernel
theorem dX2_sameEnds_33 : decode cX2_sameEnds 33 = .ok (.imul, 1) := by decide +kernel
theorem dX2_sameEnds_34 : decode cX2_sameEnds 34 = .ok (.iconst 2, 1) := by decide +kernel
theorem dX2_sameEnds_35 : decode cX2_sameEnds 35 = .ok (.iload_n 2, 1) := by decide +kernel
theorem dX2_sameEnds_36 : decode cX2_sameEnds 36 = .ok (.imul, 1) := by decide +kernel
theorem dX2_sameEnds_37 : decode cX2_sameEnds 37 = .ok (.iconst 1, 1) := by decide +kernel
theorem dX2_sameEnds_38 : decode cX2_sameEnds 38 = .ok (.iadd, 1) := by decide +kernel
theorem dX2_sameEnds_39 : decode cX2_sameEnds 39 = .ok (.invokevirtual 40, 3) := by decide +kernel
theorem dX2_sameEnds_42 : decode cX2_sameEnds 42 = .ok (.ifCond .eq 22, 3) := by decide +kernel
theorem dX2_sameEnds_45 : decode cX2_sameEnds 45 = .ok (.aload_n 0, 1) := by decide +kernel
theorem dX2_sameEnds_46 : decode cX2_sameEnds 46 = .ok (.iconst 2, 1) := by decide +kernel
theorem dX2_sameEnds_47 : decode cX2_sameEnds 47 = .ok (.iload_n 1, 1) := by decide +kernel
theorem dX2_sameEnds_48 : decode cX2_sameEnds 48 = .ok (.imul, 1) := by decide +kernel
theorem dX2_sameEnds_49 : decode cX2_sameEnds 49 = .ok (.iconst 1, 1) := by decide +kernel
theorem dX2_sameEnds_50 : decode cX2_sameEnds 50 = .ok (.iadd, 1) := by decide +kernel
theorem dX2_sameEnds_51 : decode cX2_sameEnds 51 = .ok (.iconst 2, 1) := by decide +kernel
theorem dX2_sameEnds_52 : decode cX2_sameEnds 52 = .ok (.iload_n 2, 1) := by decide +kernel
theorem dX2_sameEnds_53 : decode cX2_sameEnds 53 = .ok (.imul, 1) := by decide +kernel
theorem dX2_sameEnds_54 : decode cX2_sameEnds 54 = .ok (.invokevirtual 40, 3) := by decide +kernel
theorem dX2_sameEnds_57 : decode cX2_sameEnds 57 = .ok (.ifCond .eq 7, 3) := by decide +kernel
theorem dX2_sameEnds_60 : decode cX2_sameEnds 60 = .ok (.iconst 1, 1) := by decide +kernel
theorem dX2_sameEnds_61 : decode cX2_sameEnds 61 = .ok (.goto 4, 3) := by decide +kernel
theorem dX2_sameEnds_64 : decode cX2_sameEnds 64 = .ok (.iconst 0, 1) := by decide +kernel
theorem dX2_sameEnds_65 : decode cX2_sameEnds 65 = .ok (.ireturn, 1) := by decide +kernel
set_option maxRecDepth 20000 in
theorem ggX2_crosses_X2_parts : GoodIn wsX2_crosses wsX2_parts := goodIn_r _ [5, 6, 7, 8, 9, 10, 4, 11, 12, 13, 14, 15] (by decide +kernel) (by decide +kernel)
set_option maxRecDepth 20000 in
theorem gX2_crosses_X2_parts : GoodIn wsX2_crosses (wsV RX2 43 RX2 yX2_parts wsX2_parts) := goodIn_app (goodIn_of _ (by decide +kernel)) ggX2_crosses_X2_parts
theorem dX2_crosses_0 : decode cX2_crosses 0 = .ok (.aload_n 0, 1) := by decide +kernel
theorem dX2_crosses_1 : decode cX2_crosses 1 = .ok (.iconst 2, 1) := by decide +kernel
theorem dX2_crosses_2 : decode cX2_crosses 2 = .ok (.iload_n 1, 1) := by decide +kernel
theorem dX2_crosses_3 : decode cX2_crosses 3 = .ok (.imul, 1) := by decide +kernel
theorem dX2_crosses_4 : decode cX2_crosses 4 = .ok (.iconst 2, 1) := by decide +kernel
theorem dX2_crosses_5 : decode cX2_crosses 5 = .ok (.iload_n 2, 1) := by decide +kernel
theorem dX2_crosses_6 : decode cX2_crosses 6 = .ok (.imul, 1) := by decide +kernel
theorem dX2_crosses_7 : decode cX2_crosses 7 = .ok (.invokevirtual 43, 3) := by decide +kernel
theorem dX2_crosses_10 : decode cX2_crosses 10 = .ok (.ifCond .eq 20, 3) := by decide +kernel
theorem dX2_crosses_13 : decode cX2_crosses 13 = .ok (.aload_n 0, 1) := by decide +kernel
theorem dX2_crosses_14 : decode cX2_crosses 14 = .ok (.iconst 2, 1) := by decide +kernel
theorem dX2_crosses_15 : decode cX2_crosses 15 = .ok (.iload_n 2, 1) := by decide +kernel
theorem dX2_crosses_16 : decode cX2_crosses 16 = .ok (.imul, 1) := by decide +kernel
theorem dX2_crosses_17 : decode cX2_crosses 17 = .ok (.iconst 2, 1) := by decide +kernel
theorem dX2_crosses_18 : decode cX2_crosses 18 = .ok (.iload_n 1, 1) := by decide +kernel
theorem dX2_crosses_19 : decode cX2_crosses 19 = .ok (.imul, 1) := by decide +kernel
theorem dX2_crosses_20 : decode cX2_crosses 20 = .ok (.invokevirtual 43, 3) := by decide +kernel
theorem dX2_crosses_23 : decode cX2_crosses 23 = .ok (.ifCond .eq 7, 3) := by decide +kernel
theorem dX2_crosses_26 : decode cX2_crosses 26 = .ok (.iconst 1, 1) := by decide +kernel
theorem dX2_crosses_27 : decode cX2_crosses 27 = .ok (.goto 4, 3) := by decide +kernel
theorem dX2_crosses_30 : decode cX2_crosses 30 = .ok (.iconst 0, 1) := by decide +kernel
theorem dX2_crosses_31 : decode cX2_crosses 31 = .ok (.ireturn, 1) := by decide +kernel
set_option maxRecDepth 20000 in
theorem ggX2_parts_X2_side : GoodIn wsX2_parts wsX2_side := goodIn_r _ [7, 1, 2, 8, 9, 10, 11] (by decide +kernel) (by decide +kernel)
set_option maxRecDepth 20000 in
theorem gX2_parts_X2_side : GoodIn wsX2_parts (wsV RX2 46 RX2 yX2_side wsX2_side) := goodIn_app (goodIn_of _ (by decide +kernel)) ggX2_parts_X2_side
theorem dX2_parts_0 : decode cX2_parts 0 = .ok (.aload_n 0, 1) := by decide +kernel
theorem dX2_parts_1 : decode cX2_parts 1 = .ok (.iload_n 1, 1) := by decide +kernel
theorem dX2_parts_2 : decode cX2_parts 2 = .ok (.aload_n 0, 1) := by decide +kernel
theorem dX2_parts_3 : decode cX2_parts 3 = .ok (.getfield 9, 3) := by decide +kernel
theorem dX2_parts_6 : decode cX2_parts 6 = .ok (.iload_n 2, 1) := by decide +kernel
theorem dX2_parts_7 : decode cX2_parts 7 = .ok (.iaload, 1) := by decide +kernel
theorem dX2_parts_8 : decode cX2_parts 8 = .ok (.aload_n 0, 1) := by decide +kernel
theorem dX2_parts_9 : decode cX2_parts 9 = .ok (.getfield 15, 3) := by decide +kernel
theorem dX2_parts_12 : decode cX2_parts 12 = .ok (.iload_n 2, 1) := by decide +kernel
theorem dX2_parts_13 : decode cX2_parts 13 = .ok (.iaload, 1) := by decide +kernel
theorem dX2_parts_14 : decode cX2_parts 14 = .ok (.invokevirtual 46, 3) := by decide +kernel
theorem dX2_parts_17 : decode cX2_parts 17 = .ok (.lstore_n 3, 1) := by decide +kernel
theorem dX2_parts_18 : decode cX2_parts 18 = .ok (.aload_n 0, 1) := by decide +kernel
theorem dX2_parts_19 : decode cX2_parts 19 = .ok (.iload_n 1, 1) := by decide +kernel
theorem dX2_parts_20 : decode cX2_parts 20 = .ok (.aload_n 0, 1) := by decide +kernel
theorem dX2_parts_21 : decode cX2_parts 21 = .ok (.getfield 9, 3) := by decide +kernel
theorem dX2_parts_24 : decode cX2_parts 24 = .ok (.iload_n 2, 1) := by decide +kernel
theorem dX2_parts_25 : decode cX2_parts 25 = .ok (.iconst 1, 1) := by decide +kernel
theorem dX2_parts_26 : decode cX2_parts 26 = .ok (.ixor, 1) := by decide +kernel
theorem dX2_parts_27 : decode cX2_parts 27 = .ok (.iaload, 1) := by decide +kernel
theorem dX2_parts_28 : decode cX2_parts 28 = .ok (.aload_n 0, 1) := by decide +kernel
theorem dX2_parts_29 : decode cX2_parts 29 = .ok (.getfield 15, 3) := by decide +kernel
theorem dX2_parts_32 : decode cX2_parts 32 = .ok (.iload_n 2, 1) := by decide +kernel
theorem dX2_parts_33 : decode cX2_parts 33 = .ok (.iconst 1, 1) := by decide +kernel
theorem dX2_parts_34 : decode cX2_parts 34 = .ok (.ixor, 1) := by decide +kernel
theorem dX2_parts_35 : decode cX2_parts 35 = .ok (.iaload, 1) := by decide +kernel
theorem dX2_parts_36 : decode cX2_parts 36 = .ok (.invokevirtual 46, 3) := by decide +kernel
theorem dX2_parts_39 : decode cX2_parts 39 = .ok (.lstore 5, 2) := by decide +kernel
theorem dX2_parts_41 : decode cX2_parts 41 = .ok (.lload_n 3, 1) := by decide +kernel
theorem dX2_parts_42 : decode cX2_parts 42 = .ok (.lconst 0, 1) := by decide +kernel
theorem dX2_parts_43 : decode cX2_parts 43 = .ok (.lcmp, 1) := by decide +kernel
theorem dX2_parts_44 : decode cX2_parts 44 = .ok (.ifCond .ge 10, 3) := by decide +kernel
theorem dX2_parts_47 : decode cX2_parts 47 = .ok (.lload 5, 2) := by decide +kernel
theorem dX2_parts_49 : decode cX2_parts 49 = .ok (.lconst 0, 1) := by decide +kernel
theorem dX2_parts_50 : decode cX2_parts 50 = .ok (.lcmp, 1) := by decide +kernel
theorem dX2_parts_51 : decode cX2_parts 51 = .ok (.ifCond .gt 16, 3) := by decide +kernel
theorem dX2_parts_54 : decode cX2_parts 54 = .ok (.lload_n 3, 1) := by decide +kernel
theorem dX2_parts_55 : decode cX2_parts 55 = .ok (.lconst 0, 1) := by decide +kernel
theorem dX2_parts_56 : decode cX2_parts 56 = .ok (.lcmp, 1) := by decide +kernel
theorem dX2_parts_57 : decode cX2_parts 57 = .ok (.ifCond .le 14, 3) := by decide +kernel
theorem dX2_parts_60 : decode cX2_parts 60 = .ok (.lload 5, 2) := by decide +kernel
theorem dX2_parts_62 : decode cX2_parts 62 = .ok (.lconst 0, 1) := by decide +kernel
theorem dX2_parts_63 : decode cX2_parts 63 = .ok (.lcmp, 1) := by decide +kernel
theorem dX2_parts_64 : decode cX2_parts 64 = .ok (.ifCond .ge 7, 3) := by decide +kernel
theorem dX2_parts_67 : decode cX2_parts 67 = .ok (.iconst 1, 1) := by decide +kernel
theorem dX2_parts_68 : decode cX2_parts 68 = .ok (.goto 4, 3) := by decide +kernel
theorem dX2_parts_71 : decode cX2_parts 71 = .ok (.iconst 0, 1) := by decide +kernel
theorem dX2_parts_72 : decode cX2_parts 72 = .ok (.ireturn, 1) := by decide +kernel
theorem dX2_sameBegin_0 : decode cX2_sameBegin 0 = .ok (.aload_n 0, 1) := by decide +kernel
theorem dX2_sameBegin_1 : decode cX2_sameBegin 1 = .ok (.getfield 9, 3) := by decide +kernel
theorem dX2_sameBegin_4 : decode cX2_sameBegin 4 = .ok (.iload_n 1, 1) := by decide +kernel
theorem dX2_sameBegin_5 : decode cX2_sameBegin 5 = .ok (.iaload, 1) := by decide +kernel
theorem dX2_sameBegin_6 : decode cX2_sameBegin 6 = .ok (.aload_n 0, 1) := by decide +kernel
theorem dX2_sameBegin_7 : decode cX2_sameBegin 7 = .ok (.getfield 9, 3) := by decide +kernel
theorem dX2_sameBegin_10 : decode cX2_sameBegin 10 = .ok (.iload_n 2, 1) := by decide +kernel
theorem dX2_sameBegin_11 : decode cX2_sameBegin 11 = .ok (.iaload, 1) := by decide +kernel
theorem dX2_sameBegin_12 : decode cX2_sameBegin 12 = .ok (.if_icmp .ne 22, 3) := by decide +kernel
theorem dX2_sameBegin_15 : decode cX2_sameBegin 15 = .ok (.aload_n 0, 1) := by decide +kernel
theorem dX2_sameBegin_16 : decode cX2_sameBegin 16 = .ok (.getfield 15, 3) := by decide +kernel
theorem dX2_sameBegin_19 : decode cX2_sameBegin 19 = .ok (.iload_n 1, 1) := by decide +kernel
theorem dX2_sameBegin_20 : decode cX2_sameBegin 20 = .ok (.iaload, 1) := by decide +kernel
theorem dX2_sameBegin_21 : decode cX2_sameBegin 21 = .ok (.aload_n 0, 1) := by decide +kernel
theorem dX2_sameBegin_22 : decode cX2_sameBegin 22 = .ok (.getfield 15, 3) := by decide +kernel
theorem dX2_sameBegin_25 : decode cX2_sameBegin 25 = .ok (.iload_n 2, 1) := by decide +kernel
theorem dX2_sameBegin_26 : decode cX2_sameBegin 26 = .ok (.iaload, 1) := by decide +kernel
theorem dX2_sameBegin_27 : decode cX2_sameBegin 27 = .ok (.if_icmp .ne 7, 3) := by decide +kernel
theorem dX2_sameBegin_30 : decode cX2_sameBegin 30 = .ok (.iconst 1, 1) := by decide +kernel
theorem dX2_sameBegin_31 : decode cX2_sameBegin 31 = .ok (.goto 4, 3) := by decide +kernel
theorem dX2_sameBegin_34 : decode cX2_sameBegin 34 = .ok (.iconst 0, 1) := by decide +kernel
theorem dX2_sameBegin_35 : decode cX2_sameBegin 35 = .ok (.ireturn, 1) := by decide +kernel
theorem dX2_side_0 : decode cX2_side 0 = .ok (.aload_n 0, 1) := by decide +kernel
theorem dX2_side_1 : decode cX2_side 1 = .ok (.getfield 9, 3) := by decide +kernel
theorem dX2_side_4 : decode cX2_side 4 = .ok (.iload_n 1, 1) := by decide +kernel
theorem dX2_side_5 : decode cX2_side 5 = .ok (.iconst 1, 1) := by decide +kernel
theorem dX2_side_6 : decode cX2_side 6 = .ok (.ixor, 1) := by decide +kernel
theorem dX2_side_7 : decode cX2_side 7 = .ok (.iaload, 1) := by decide +kernel
theorem dX2_side_8 : decode cX2_side 8 = .ok (.aload_n 0, 1) := by decide +kernel
theorem dX2_side_9 : decode cX2_side 9 = .ok (.getfield 9, 3) := by decide +kernel
theorem dX2_side_12 : decode cX2_side 12 = .ok (.iload_n 1, 1) := by decide +kernel
theorem dX2_side_13 : decode cX2_side 13 = .ok (.iaload, 1) := by decide +kernel
theorem dX2_side_14 : decode cX2_side 14 = .ok (.isub, 1) := by decide +kernel
theorem dX2_side_15 : decode cX2_side 15 = .ok (.i2l, 1) := by decide +kernel
theorem dX2_side_16 : decode cX2_side 16 = .ok (.lstore 4, 2) := by decide +kernel
theorem dX2_side_18 : decode cX2_side 18 = .ok (.aload_n 0, 1) := by decide +kernel
theorem dX2_side_19 : decode cX2_side 19 = .ok (.getfield 15, 3) := by decide +kernel
theorem dX2_side_22 : decode cX2_side 22 = .ok (.iload_n 1, 1) := by decide +kernel
theorem dX2_side_23 : decode cX2_side 23 = .ok (.iconst 1, 1) := by decide +kernel
theorem dX2_side_24 : decode cX2_side 24 = .ok (.ixor, 1) := by decide +kernel
theorem dX2_side_25 : decode cX2_side 25 = .ok (.iaload, 1) := by decide +kernel
theorem dX2_side_26 : decode cX2_side 26 = .ok (.aload_n 0, 1) := by decide +kernel
theorem dX2_side_27 : decode cX2_side 27 = .ok (.getfield 15, 3) := by decide +kernel
theorem dX2_side_30 : decode cX2_side 30 = .ok (.iload_n 1, 1) := by decide +kernel
theorem dX2_side_31 : decode cX2_side 31 = .ok (.iaload, 1) := by decide +kernel
theorem dX2_side_32 : decode cX2_side 32 = .ok (.isub, 1) := by decide +kernel
theorem dX2_side_33 : decode cX2_side 33 = .ok (.i2l, 1) := by decide +kernel
theorem dX2_side_34 : decode cX2_side 34 = .ok (.lstore 6, 2) := by decide +kernel
theorem dX2_side_36 : decode cX2_side 36 = .ok (.lload 4, 2) := by decide +kernel
theorem dX2_side_38 : decode cX2_side 38 = .ok (.iload_n 3, 1) := by decide +kernel
theorem dX2_side_39 : decode cX2_side 39 = .ok (.aload_n 0, 1) := by decide +kernel
theorem dX2_side_40 : decode cX2_side 40 = .ok (.getfield 15, 3) := by decide +kernel
theorem dX2_side_43 : decode cX2_side 43 = .ok (.iload_n 1, 1) := by decide +kernel
theorem dX2_side_44 : decode cX2_side 44 = .ok (.iaload, 1) := by decide +kernel
theorem dX2_side_45 : decode cX2_side 45 = .ok (.isub, 1) := by decide +kernel
theorem dX2_side_46 : decode cX2_side 46 = .ok (.i2l, 1) := by decide +kernel
theorem dX2_side_47 : decode cX2_side 47 = .ok (.lmul, 1) := by decide +kernel
theorem dX2_side_48 : decode cX2_side 48 = .ok (.lload 6, 2) := by decide +kernel
theorem dX2_side_50 : decode cX2_side 50 = .ok (.iload_n 2, 1) := by decide +kernel
theorem dX2_side_51 : decode cX2_side 51 = .ok (.aload_n 0, 1) := by decide +kernel
theorem dX2_side_52 : decode cX2_side 52 = .ok (.getfield 9, 3) := by decide +kernel
theorem dX2_side_55 : decode cX2_side 55 = .ok (.iload_n 1, 1) := by decide +kernel
theorem dX2_side_56 : decode cX2_side 56 = .ok (.iaload, 1) := by decide +kernel
theorem dX2_side_57 : decode cX2_side 57 = .ok (.isub, 1) := by decide +kernel
theorem dX2_side_58 : decode cX2_side 58 = .ok (.i2l, 1) := by decide +kernel
theorem dX2_side_59 : decode cX2_side 59 = .ok (.lmul, 1) := by decide +kernel
theorem dX2_side_60 : decode cX2_side 60 = .ok (.lsub, 1) := by decide +kernel
theorem dX2_side_61 : decode cX2_side 61 = .ok (.lreturn, 1) := by decide +kernel
set_option maxRecDepth 20000 in
theorem ggX2_holds_X2_side : GoodIn wsX2_holds wsX2_side := goodIn_r _ [7, 1, 2, 8, 9, 10, 11] (by decide +kernel) (by decide +kernel)
set_option maxRecDepth 20000 in
theorem gX2_holds_X2_side : GoodIn wsX2_holds (wsV RX2 46 RX2 yX2_side wsX2_side) := goodIn_app (goodIn_of _ (by decide +kernel)) ggX2_holds_X2_side
theorem dX2_holds_0 : decode cX2_holds 0 = .ok (.aload_n 0, 1) := by decide +kernel
theorem dX2_holds_1 : decode cX2_holds 1 = .ok (.iconst 2, 1) := by decide +kernel
theorem dX2_holds_2 : decode cX2_holds 2 = .ok (.iload_n 1, 1) := by decide +kernel
theorem dX2_holds_3 : decode cX2_holds 3 = .ok (.imul, 1) := by decide +kernel
theorem dX2_holds_4 : decode cX2_holds 4 = .ok (.iload_n 2, 1) := by decide +kernel
theorem dX2_holds_5 : decode cX2_holds 5 = .ok (.iload_n 3, 1) := by decide +kernel
theorem dX2_holds_6 : decode cX2_holds 6 = .ok (.invokevirtual 46, 3) := by decide +kernel
theorem dX2_holds_9 : decode cX2_holds 9 = .ok (.lconst 0, 1) := by decide +kernel
theorem dX2_holds_10 : decode cX2_holds 10 = .ok (.lcmp, 1) := by decide +kernel
theorem dX2_holds_11 : decode cX2_holds 11 = .ok (.ifCond .eq 5, 3) := by decide +kernel
theorem dX2_holds_14 : decode cX2_holds 14 = .ok (.iconst 0, 1) := by decide +kernel
theorem dX2_holds_15 : decode cX2_holds 15 = .ok (.ireturn, 1) := by decide +kernel
theorem dX2_holds_16 : decode cX2_holds 16 = .ok (.aload_n 0, 1) := by decide +kernel
theorem dX2_holds_17 : decode cX2_holds 17 = .ok (.getfield 9, 3) := by decide +kernel
theorem dX2_holds_20 : decode cX2_holds 20 = .ok (.iconst 2, 1) := by decide +kernel
theorem dX2_holds_21 : decode cX2_holds 21 = .ok (.iload_n 1, 1) := by decide +kernel
theorem dX2_holds_22 : decode cX2_holds 22 = .ok (.imul, 1) := by decide +kernel
theorem dX2_holds_23 : decode cX2_holds 23 = .ok (.iaload, 1) := by decide +kernel
theorem dX2_holds_24 : decode cX2_holds 24 = .ok (.iload_n 2, 1) := by decide +kernel
theorem dX2_holds_25 : decode cX2_holds 25 = .ok (.isub, 1) := by decide +kernel
theorem dX2_holds_26 : decode cX2_holds 26 = .ok (.i2l, 1) := by decide +kernel
theorem dX2_holds_27 : decode cX2_holds 27 = .ok (.lstore 4, 2) := by decide +kernel
theorem dX2_holds_29 : decode cX2_holds 29 = .ok (.aload_n 0, 1) := by decide +kernel
theorem dX2_holds_30 : decode cX2_holds 30 = .ok (.getfield 15, 3) := by decide +kernel
theorem dX2_holds_33 : decode cX2_holds 33 = .ok (.iconst 2, 1) := by decide +kernel
theorem dX2_holds_34 : decode cX2_holds 34 = .ok (.iload_n 1, 1) := by decide +kernel
theorem dX2_holds_35 : decode cX2_holds 35 = .ok (.imul, 1) := by decide +kernel
theorem dX2_holds_36 : decode cX2_holds 36 = .ok (.iaload, 1) := by decide +kernel
theorem dX2_holds_37 : decode cX2_holds 37 = .ok (.iload_n 3, 1) := by decide +kernel
theorem dX2_holds_38 : decode cX2_holds 38 = .ok (.isub, 1) := by decide +kernel
theorem dX2_holds_39 : decode cX2_holds 39 = .ok (.i2l, 1) := by decide +kernel
theorem dX2_holds_40 : decode cX2_holds 40 = .ok (.lstore 6, 2) := by decide +kernel
theorem dX2_holds_42 : decode cX2_holds 42 = .ok (.lload 4, 2) := by decide +kernel
theorem dX2_holds_44 : decode cX2_holds 44 = .ok (.aload_n 0, 1) := by decide +kernel
theorem dX2_holds_45 : decode cX2_holds 45 = .ok (.getfield 9, 3) := by decide +kernel
theorem dX2_holds_48 : decode cX2_holds 48 = .ok (.iconst 2, 1) := by decide +kernel
theorem dX2_holds_49 : decode cX2_holds 49 = .ok (.iload_n 1, 1) := by decide +kernel
theorem dX2_holds_50 : decode cX2_holds 50 = .ok (.imul, 1) := by decide +kernel
theorem dX2_holds_51 : decode cX2_holds 51 = .ok (.iconst 1, 1) := by decide +kernel
theorem dX2_holds_52 : decode cX2_holds 52 = .ok (.iadd, 1) := by decide +kernel
theorem dX2_holds_53 : decode cX2_holds 53 = .ok (.iaload, 1) := by decide +kernel
theorem dX2_holds_54 : decode cX2_holds 54 = .ok (.iload_n 2, 1) := by decide +kernel
theorem dX2_holds_55 : decode cX2_holds 55 = .ok (.isub, 1) := by decide +kernel
theorem dX2_holds_56 : decode cX2_holds 56 = .ok (.i2l, 1) := by decide +kernel
theorem dX2_holds_57 : decode cX2_holds 57 = .ok (.lmul, 1) := by decide +kernel
theorem dX2_holds_58 : decode cX2_holds 58 = .ok (.lload 6, 2) := by decide +kernel
theorem dX2_holds_60 : decode cX2_holds 60 = .ok (.aload_n 0, 1) := by decide +kernel
theorem dX2_holds_61 : decode cX2_holds 61 = .ok (.getfield 15, 3) := by decide +kernel
theorem dX2_holds_64 : decode cX2_holds 64 = .ok (.iconst 2, 1) := by decide +kernel
theorem dX2_holds_65 : decode cX2_holds 65 = .ok (.iload_n 1, 1) := by decide +kernel
theorem dX2_holds_66 : decode cX2_holds 66 = .ok (.imul, 1) := by decide +kernel
theorem dX2_holds_67 : decode cX2_holds 67 = .ok (.iconst 1, 1) := by decide +kernel
theorem dX2_holds_68 : decode cX2_holds 68 = .ok (.iadd, 1) := by decide +kernel
theorem dX2_holds_69 : decode cX2_holds 69 = .ok (.iaload, 1) := by decide +kernel
theorem dX2_holds_70 : decode cX2_holds 70 = .ok (.iload_n 3, 1) := by decide +kernel
theorem dX2_holds_71 : decode cX2_holds 71 = .ok (.isub, 1) := by decide +kernel
theorem dX2_holds_72 : decode cX2_holds 72 = .ok (.i2l, 1) := by decide +kernel
theorem dX2_holds_73 : decode cX2_holds 73 = .ok (.lmul, 1) := by decide +kernel
theorem dX2_holds_74 : decode cX2_holds 74 = .ok (.ladd, 1) := by decide +kernel
theorem dX2_holds_75 : decode cX2_holds 75 = .ok (.lconst 0, 1) := by decide +kernel
theorem dX2_holds_76 : decode cX2_holds 76 = .ok (.lcmp, 1) := by decide +kernel
theorem dX2_holds_77 : decode cX2_holds 77 = .ok (.ifCond .ge 7, 3) := by decide +kernel
theorem dX2_holds_80 : decode cX2_holds 80 = .ok (.iconst 1, 1) := by decide +kernel
theorem dX2_holds_81 : decode cX2_holds 81 = .ok (.goto 4, 3) := by decide +kernel
theorem dX2_holds_84 : decode cX2_holds 84 = .ok (.iconst 0, 1) := by decide +kernel
theorem dX2_holds_85 : decode cX2_holds 85 = .ok (.ireturn, 1) := by decide +kernel
theorem dX2_leastHalfAt_0 : decode cX2_leastHalfAt 0 = .ok (.iconst 0, 1) := by decide +kernel
theorem dX2_leastHalfAt_1 : decode cX2_leastHalfAt 1 = .ok (.istore_n 3, 1) := by decide +kernel
theorem dX2_leastHalfAt_2 : decode cX2_leastHalfAt 2 = .ok (.iload_n 3, 1) := by decide +kernel
theorem dX2_leastHalfAt_3 : decode cX2_leastHalfAt 3 = .ok (.bipush 120, 2) := by decide +kernel
theorem dX2_leastHalfAt_5 : decode cX2_leastHalfAt 5 = .ok (.if_icmp .ge 42, 3) := by decide +kernel
theorem dX2_leastHalfAt_8 : decode cX2_leastHalfAt 8 = .ok (.aload_n 0, 1) := by decide +kernel
theorem dX2_leastHalfAt_9 : decode cX2_leastHalfAt 9 = .ok (.getfield 18, 3) := by decide +kernel
theorem dX2_leastHalfAt_12 : decode cX2_leastHalfAt 12 = .ok (.iload_n 3, 1) := by decide +kernel
theorem dX2_leastHalfAt_13 : decode cX2_leastHalfAt 13 = .ok (.iconst 1, 1) := by decide +kernel
theorem dX2_leastHalfAt_14 : decode cX2_leastHalfAt 14 = .ok (.ishr, 1) := by decide +kernel
theorem dX2_leastHalfAt_15 : decode cX2_leastHalfAt 15 = .ok (.baload, 1) := by decide +kernel
theorem dX2_leastHalfAt_16 : decode cX2_leastHalfAt 16 = .ok (.ifCond .eq 25, 3) := by decide +kernel
theorem dX2_leastHalfAt_19 : decode cX2_leastHalfAt 19 = .ok (.aload_n 0, 1) := by decide +kernel
theorem dX2_leastHalfAt_20 : decode cX2_leastHalfAt 20 = .ok (.getfield 9, 3) := by decide +kernel
theorem dX2_leastHalfAt_23 : decode cX2_leastHalfAt 23 = .ok (.iload_n 3, 1) := by decide +kernel
theorem dX2_leastHalfAt_24 : decode cX2_leastHalfAt 24 = .ok (.iaload, 1) := by decide +kernel
theorem dX2_leastHalfAt_25 : decode cX2_leastHalfAt 25 = .ok (.iload_n 1, 1) := by decide +kernel
theorem dX2_leastHalfAt_26 : decode cX2_leastHalfAt 26 = .ok (.if_icmp .ne 15, 3) := by decide +kernel
theorem dX2_leastHalfAt_29 : decode cX2_leastHalfAt 29 = .ok (.aload_n 0, 1) := by decide +kernel
theorem dX2_leastHalfAt_30 : decode cX2_leastHalfAt 30 = .ok (.getfield 15, 3) := by decide +kernel
theorem dX2_leastHalfAt_33 : decode cX2_leastHalfAt 33 = .ok (.iload_n 3, 1) := by decide +kernel
theorem dX2_leastHalfAt_34 : decode cX2_leastHalfAt 34 = .ok (.iaload, 1) := by decide +kernel
theorem dX2_leastHalfAt_35 : decode cX2_leastHalfAt 35 = .ok (.iload_n 2, 1) := by decide +kernel
theorem dX2_leastHalfAt_36 : decode cX2_leastHalfAt 36 = .ok (.if_icmp .ne 5, 3) := by decide +kernel
theorem dX2_leastHalfAt_39 : decode cX2_leastHalfAt 39 = .ok (.iload_n 3, 1) := by decide +kernel
theorem dX2_leastHalfAt_40 : decode cX2_leastHalfAt 40 = .ok (.ireturn, 1) := by decide +kernel
theorem dX2_leastHalfAt_41 : decode cX2_leastHalfAt 41 = .ok (.iinc 3 1, 3) := by decide +kernel
theorem dX2_leastHalfAt_44 : decode cX2_leastHalfAt 44 = .ok (.goto (-42), 3) := by decide +kernel
theorem dX2_leastHalfAt_47 : decode cX2_leastHalfAt 47 = .ok (.iconst (-1), 1) := by decide +kernel
theorem dX2_leastHalfAt_48 : decode cX2_leastHalfAt 48 = .ok (.ireturn, 1) := by decide +kernel
set_option maxRecDepth 20000 in
theorem ggX2_segmentThrough_X2_holds : GoodIn wsX2_segmentThrough wsX2_holds := goodIn_r _ [6, 7, 8, 9, 10, 11, 5, 12, 13, 14, 15, 16] (by decide +kernel) (by decide +kernel)
set_option maxRecDepth 20000 in
theorem gX2_segmentThrough_X2_holds : GoodIn wsX2_segmentThrough (wsV RX2 36 RX2 yX2_holds wsX2_holds) := goodIn_app (goodIn_of _ (by decide +kernel)) ggX2_segmentThrough_X2_holds
theorem dX2_segmentThrough_0 : decode cX2_segmentThrough 0 = .ok (.iconst 0, 1) := by decide +kernel
theorem dX2_segmentThrough_1 : decode cX2_segmentThrough 1 = .ok (.istore_n 3, 1) := by decide +kernel
theorem dX2_segmentThrough_2 : decode cX2_segmentThrough 2 = .ok (.iload_n 3, 1) := by decide +kernel
theorem dX2_segmentThrough_3 : decode cX2_segmentThrough 3 = .ok (.bipush 60, 2) := by decide +kernel
theorem dX2_segmentThrough_5 : decode cX2_segmentThrough 5 = .ok (.if_icmp .ge 30, 3) := by decide +kernel
theorem dX2_segmentThrough_8 : decode cX2_segmentThrough 8 = .ok (.aload_n 0, 1) := by decide +kernel
theorem dX2_segmentThrough_9 : decode cX2_segmentThrough 9 = .ok (.getfield 18, 3) := by decide +kernel
theorem dX2_segmentThrough_12 : decode cX2_segmentThrough 12 = .ok (.iload_n 3, 1) := by decide +kernel
theorem dX2_segmentThrough_13 : decode cX2_segmentThrough 13 = .ok (.baload, 1) := by decide +kernel
theorem dX2_segmentThrough_14 : decode cX2_segmentThrough 14 = .ok (.ifCond .eq 15, 3) := by decide +kernel
theorem dX2_segmentThrough_17 : decode cX2_segmentThrough 17 = .ok (.aload_n 0, 1) := by decide +kernel
theorem dX2_segmentThrough_18 : decode cX2_segmentThrough 18 = .ok (.iload_n 3, 1) := by decide +kernel
theorem dX2_segmentThrough_19 : decode cX2_segmentThrough 19 = .ok (.iload_n 1, 1) := by decide +kernel
theorem dX2_segmentThrough_20 : decode cX2_segmentThrough 20 = .ok (.iload_n 2, 1) := by decide +kernel
theorem dX2_segmentThrough_21 : decode cX2_segmentThrough 21 = .ok (.invokevirtual 36, 3) := by decide +kernel
theorem dX2_segmentThrough_24 : decode cX2_segmentThrough 24 = .ok (.ifCond .eq 5, 3) := by decide +kernel
theorem dX2_segmentThrough_27 : decode cX2_segmentThrough 27 = .ok (.iload_n 3, 1) := by decide +kernel
theorem dX2_segmentThrough_28 : decode cX2_segmentThrough 28 = .ok (.ireturn, 1) := by decide +kernel
theorem dX2_segmentThrough_29 : decode cX2_segmentThrough 29 = .ok (.iinc 3 1, 3) := by decide +kernel
theorem dX2_segmentThrough_32 : decode cX2_segmentThrough 32 = .ok (.goto (-30), 3) := by decide +kernel
theorem dX2_segmentThrough_35 : decode cX2_segmentThrough 35 = .ok (.iconst (-1), 1) := by decide +kernel
theorem dX2_segmentThrough_36 : decode cX2_segmentThrough 36 = .ok (.ireturn, 1) := by decide +kernel
theorem dX2_turn_0 : decode cX2_turn 0 = .ok (.aload_n 0, 1) := by decide +kernel
theorem dX2_turn_1 : decode cX2_turn 1 = .ok (.getfield 9, 3) := by decide +kernel
theorem dX2_turn_4 : decode cX2_turn 4 = .ok (.iload_n 1, 1) := by decide +kernel
theorem dX2_turn_5 : decode cX2_turn 5 = .ok (.iconst 1, 1) := by decide +kernel
theorem dX2_turn_6 : decode cX2_turn 6 = .ok (.ixor, 1) := by decide +kernel
theorem dX2_turn_7 : decode cX2_turn 7 = .ok (.iaload, 1) := by decide +kernel
theorem dX2_turn_8 : decode cX2_turn 8 = .ok (.aload_n 0, 1) := by decide +kernel
theorem dX2_turn_9 : decode cX2_turn 9 = .ok (.getfield 9, 3) := by decide +kernel
theorem dX2_turn_12 : decode cX2_turn 12 = .ok (.iload_n 1, 1) := by decide +kernel
theorem dX2_turn_13 : decode cX2_turn 13 = .ok (.iaload, 1) := by decide +kernel
theorem dX2_turn_14 : decode cX2_turn 14 = .ok (.isub, 1) := by decide +kernel
theorem dX2_turn_15 : decode cX2_turn 15 = .ok (.i2l, 1) := by decide +kernel
theorem dX2_turn_16 : decode cX2_turn 16 = .ok (.lstore_n 3, 1) := by decide +kernel
theorem dX2_turn_17 : decode cX2_turn 17 = .ok (.aload_n 0, 1) := by decide +kernel
theorem dX2_turn_18 : decode cX2_turn 18 = .ok (.getfield 15, 3) := by decide +kernel
theorem dX2_turn_21 : decode cX2_turn 21 = .ok (.iload_n 1, 1) := by decide +kernel
theorem dX2_turn_22 : decode cX2_turn 22 = .ok (.iconst 1, 1) := by decide +kernel
theorem dX2_turn_23 : decode cX2_turn 23 = .ok (.ixor, 1) := by decide +kernel
theorem dX2_turn_24 : decode cX2_turn 24 = .ok (.iaload, 1) := by decide +kernel
theorem dX2_turn_25 : decode cX2_turn 25 = .ok (.aload_n 0, 1) := by decide +kernel
theorem dX2_turn_26 : decode cX2_turn 26 = .ok (.getfield 15, 3) := by decide +kernel
theorem dX2_turn_29 : decode cX2_turn 29 = .ok (.iload_n 1, 1) := by decide +kernel
theorem dX2_turn_30 : decode cX2_turn 30 = .ok (.iaload, 1) := by decide +kernel
theorem dX2_turn_31 : decode cX2_turn 31 = .ok (.isub, 1) := by decide +kernel
theorem dX2_turn_32 : decode cX2_turn 32 = .ok (.i2l, 1) := by decide +kernel
theorem dX2_turn_33 : decode cX2_turn 33 = .ok (.lstore 5, 2) := by decide +kernel
theorem dX2_turn_35 : decode cX2_turn 35 = .ok (.lload_n 3, 1) := by decide +kernel
theorem dX2_turn_36 : decode cX2_turn 36 = .ok (.aload_n 0, 1) := by decide +kernel
theorem dX2_turn_37 : decode cX2_turn 37 = .ok (.getfield 15, 3) := by decide +kernel
theorem dX2_turn_40 : decode cX2_turn 40 = .ok (.iload_n 2, 1) := by decide +kernel
theorem dX2_turn_41 : decode cX2_turn 41 = .ok (.iconst 1, 1) := by decide +kernel
theorem dX2_turn_42 : decode cX2_turn 42 = .ok (.ixor, 1) := by decide +kernel
theorem dX2_turn_43 : decode cX2_turn 43 = .ok (.iaload, 1) := by decide +kernel
theorem dX2_turn_44 : decode cX2_turn 44 = .ok (.aload_n 0, 1) := by decide +kernel
theorem dX2_turn_45 : decode cX2_turn 45 = .ok (.getfield 15, 3) := by decide +kernel
theorem dX2_turn_48 : decode cX2_turn 48 = .ok (.iload_n 2, 1) := by decide +kernel
theorem dX2_turn_49 : decode cX2_turn 49 = .ok (.iaload, 1) := by decide +kernel
theorem dX2_turn_50 : decode cX2_turn 50 = .ok (.isub, 1) := by decide +kernel
theorem dX2_turn_51 : decode cX2_turn 51 = .ok (.i2l, 1) := by decide +kernel
theorem dX2_turn_52 : decode cX2_turn 52 = .ok (.lmul, 1) := by decide +kernel
theorem dX2_turn_53 : decode cX2_turn 53 = .ok (.lload 5, 2) := by decide +kernel
theorem dX2_turn_55 : decode cX2_turn 55 = .ok (.aload_n 0, 1) := by decide +kernel
theorem dX2_turn_56 : decode cX2_turn 56 = .ok (.getfield 9, 3) := by decide +kernel
theorem dX2_turn_59 : decode cX2_turn 59 = .ok (.iload_n 2, 1) := by decide +kernel
theorem dX2_turn_60 : decode cX2_turn 60 = .ok (.iconst 1, 1) := by decide +kernel
theorem dX2_turn_61 : decode cX2_turn 61 = .ok (.ixor, 1) := by decide +kernel
theorem dX2_turn_62 : decode cX2_turn 62 = .ok (.iaload, 1) := by decide +kernel
theorem dX2_turn_63 : decode cX2_turn 63 = .ok (.aload_n 0, 1) := by decide +kernel
theorem dX2_turn_64 : decode cX2_turn 64 = .ok (.getfield 9, 3) := by decide +kernel
theorem dX2_turn_67 : decode cX2_turn 67 = .ok (.iload_n 2, 1) := by decide +kernel
theorem dX2_turn_68 : decode cX2_turn 68 = .ok (.iaload, 1) := by decide +kernel
theorem dX2_turn_69 : decode cX2_turn 69 = .ok (.isub, 1) := by decide +kernel
theorem dX2_turn_70 : decode cX2_turn 70 = .ok (.i2l, 1) := by decide +kernel
theorem dX2_turn_71 : decode cX2_turn 71 = .ok (.lmul, 1) := by decide +kernel
theorem dX2_turn_72 : decode cX2_turn 72 = .ok (.lsub, 1) := by decide +kernel
theorem dX2_turn_73 : decode cX2_turn 73 = .ok (.lreturn, 1) := by decide +kernel
set_option maxRecDepth 20000 in
theorem ggX2_sooner_X2_turn : GoodIn wsX2_sooner wsX2_turn := goodIn_r _ [5, 6, 7, 11, 12, 13, 14] (by decide +kernel) (by decide +kernel)
set_option maxRecDepth 20000 in
theorem gX2_sooner_X2_turn : GoodIn wsX2_sooner (wsV RX2 50 RX2 yX2_turn wsX2_turn) := goodIn_app (goodIn_of _ (by decide +kernel)) ggX2_sooner_X2_turn
set_option maxRecDepth 20000 in
theorem ggX2_sooner_X2_signOf : GoodIn wsX2_sooner wsX2_signOf := goodIn_r _ [10] (by decide +kernel) (by decide +kernel)
set_option maxRecDepth 20000 in
theorem gX2_sooner_X2_signOf : GoodIn wsX2_sooner (va_wsS RX2 54 yX2_signOf wsX2_signOf) := goodIn_app (goodIn_of _ (by decide +kernel)) ggX2_sooner_X2_signOf
theorem dX2_sooner_0 : decode cX2_sooner 0 = .ok (.aload_n 0, 1) := by decide +kernel
theorem dX2_sooner_1 : decode cX2_sooner 1 = .ok (.iload_n 1, 1) := by decide +kernel
theorem dX2_sooner_2 : decode cX2_sooner 2 = .ok (.iload_n 2, 1) := by decide +kernel
theorem dX2_sooner_3 : decode cX2_sooner 3 = .ok (.invokevirtual 50, 3) := by decide +kernel
theorem dX2_sooner_6 : decode cX2_sooner 6 = .ok (.invokestatic 54, 3) := by decide +kernel
theorem dX2_sooner_9 : decode cX2_sooner 9 = .ok (.istore 4, 2) := by decide +kernel
theorem dX2_sooner_11 : decode cX2_sooner 11 = .ok (.aload_n 0, 1) := by decide +kernel
theorem dX2_sooner_12 : decode cX2_sooner 12 = .ok (.iload_n 1, 1) := by decide +kernel
theorem dX2_sooner_13 : decode cX2_sooner 13 = .ok (.iload_n 3, 1) := by decide +kernel
theorem dX2_sooner_14 : decode cX2_sooner 14 = .ok (.invokevirtual 50, 3) := by decide +kernel
theorem dX2_sooner_17 : decode cX2_sooner 17 = .ok (.invokestatic 54, 3) := by decide +kernel
theorem dX2_sooner_20 : decode cX2_sooner 20 = .ok (.istore 5, 2) := by decide +kernel
theorem dX2_sooner_22 : decode cX2_sooner 22 = .ok (.iload 4, 2) := by decide +kernel
theorem dX2_sooner_24 : decode cX2_sooner 24 = .ok (.iload 5, 2) := by decide +kernel
theorem dX2_sooner_26 : decode cX2_sooner 26 = .ok (.if_icmp .ne 22, 3) := by decide +kernel
theorem dX2_sooner_29 : decode cX2_sooner 29 = .ok (.aload_n 0, 1) := by decide +kernel
theorem dX2_sooner_30 : decode cX2_sooner 30 = .ok (.iload_n 2, 1) := by decide +kernel
theorem dX2_sooner_31 : decode cX2_sooner 31 = .ok (.iload_n 3, 1) := by decide +kernel
theorem dX2_sooner_32 : decode cX2_sooner 32 = .ok (.invokevirtual 50, 3) := by decide +kernel
theorem dX2_sooner_35 : decode cX2_sooner 35 = .ok (.lconst 0, 1) := by decide +kernel
theorem dX2_sooner_36 : decode cX2_sooner 36 = .ok (.lcmp, 1) := by decide +kernel
theorem dX2_sooner_37 : decode cX2_sooner 37 = .ok (.ifCond .ge 7, 3) := by decide +kernel
theorem dX2_sooner_40 : decode cX2_sooner 40 = .ok (.iconst 1, 1) := by decide +kernel
theorem dX2_sooner_41 : decode cX2_sooner 41 = .ok (.goto 19, 3) := by decide +kernel
theorem dX2_sooner_44 : decode cX2_sooner 44 = .ok (.iconst 0, 1) := by decide +kernel
theorem dX2_sooner_45 : decode cX2_sooner 45 = .ok (.goto 15, 3) := by decide +kernel
theorem dX2_sooner_48 : decode cX2_sooner 48 = .ok (.iload 4, 2) := by decide +kernel
theorem dX2_sooner_50 : decode cX2_sooner 50 = .ok (.iload 5, 2) := by decide +kernel
theorem dX2_sooner_52 : decode cX2_sooner 52 = .ok (.if_icmp .ge 7, 3) := by decide +kernel
theorem dX2_sooner_55 : decode cX2_sooner 55 = .ok (.iconst 1, 1) := by decide +kernel
theorem dX2_sooner_56 : decode cX2_sooner 56 = .ok (.goto 4, 3) := by decide +kernel
theorem dX2_sooner_59 : decode cX2_sooner 59 = .ok (.iconst 0, 1) := by decide +kernel
theorem dX2_sooner_60 : decode cX2_sooner 60 = .ok (.ireturn, 1) := by decide +kernel
theorem dX2_signOf_0 : decode cX2_signOf 0 = .ok (.lload_n 0, 1) := by decide +kernel
theorem dX2_signOf_1 : decode cX2_signOf 1 = .ok (.lconst 0, 1) := by decide +kernel
theorem dX2_signOf_2 : decode cX2_signOf 2 = .ok (.lcmp, 1) := by decide +kernel
theorem dX2_signOf_3 : decode cX2_signOf 3 = .ok (.ifCond .ge 7, 3) := by decide +kernel
theorem dX2_signOf_6 : decode cX2_signOf 6 = .ok (.iconst (-1), 1) := by decide +kernel
theorem dX2_signOf_7 : decode cX2_signOf 7 = .ok (.goto 14, 3) := by decide +kernel
theorem dX2_signOf_10 : decode cX2_signOf 10 = .ok (.lload_n 0, 1) := by decide +kernel
theorem dX2_signOf_11 : decode cX2_signOf 11 = .ok (.lconst 0, 1) := by decide +kernel
theorem dX2_signOf_12 : decode cX2_signOf 12 = .ok (.lcmp, 1) := by decide +kernel
theorem dX2_signOf_13 : decode cX2_signOf 13 = .ok (.ifCond .le 7, 3) := by decide +kernel
theorem dX2_signOf_16 : decode cX2_signOf 16 = .ok (.iconst 1, 1) := by decide +kernel
theorem dX2_signOf_17 : decode cX2_signOf 17 = .ok (.goto 4, 3) := by decide +kernel
theorem dX2_signOf_20 : decode cX2_signOf 20 = .ok (.iconst 0, 1) := by decide +kernel
theorem dX2_signOf_21 : decode cX2_signOf 21 = .ok (.ireturn, 1) := by decide +kernel
theorem dX2_sweep_0 : decode cX2_sweep 0 = .ok (.aload_n 0, 1) := by decide +kernel
theorem dX2_sweep_1 : decode cX2_sweep 1 = .ok (.getfield 9, 3) := by decide +kernel
theorem dX2_sweep_4 : decode cX2_sweep 4 = .ok (.iload_n 1, 1) := by decide +kernel
theorem dX2_sweep_5 : decode cX2_sweep 5 = .ok (.iaload, 1) := by decide +kernel
theorem dX2_sweep_6 : decode cX2_sweep 6 = .ok (.i2l, 1) := by decide +kernel
theorem dX2_sweep_7 : decode cX2_sweep 7 = .ok (.aload_n 0, 1) := by decide +kernel
theorem dX2_sweep_8 : decode cX2_sweep 8 = .ok (.getfield 15, 3) := by decide +kernel
theorem dX2_sweep_11 : decode cX2_sweep 11 = .ok (.iload_n 1, 1) := by decide +kernel
theorem dX2_sweep_12 : decode cX2_sweep 12 = .ok (.iconst 1, 1) := by decide +kernel
theorem dX2_sweep_13 : decode cX2_sweep 13 = .ok (.ixor, 1) := by decide +kernel
theorem dX2_sweep_14 : decode cX2_sweep 14 = .ok (.iaload, 1) := by decide +kernel
theorem dX2_sweep_15 : decode cX2_sweep 15 = .ok (.i2l, 1) := by decide +kernel
theorem dX2_sweep_16 : decode cX2_sweep 16 = .ok (.lmul, 1) := by decide +kernel
theorem dX2_sweep_17 : decode cX2_sweep 17 = .ok (.aload_n 0, 1) := by decide +kernel
theorem dX2_sweep_18 : decode cX2_sweep 18 = .ok (.getfield 9, 3) := by decide +kernel
theorem dX2_sweep_21 : decode cX2_sweep 21 = .ok (.iload_n 1, 1) := by decide +kernel
theorem dX2_sweep_22 : decode cX2_sweep 22 = .ok (.iconst 1, 1) := by decide +kernel
theorem dX2_sweep_23 : decode cX2_sweep 23 = .ok (.ixor, 1) := by decide +kernel
theorem dX2_sweep_24 : decode cX2_sweep 24 = .ok (.iaload, 1) := by decide +kernel
theorem dX2_sweep_25 : decode cX2_sweep 25 = .ok (.i2l, 1) := by decide +kernel
theorem dX2_sweep_26 : decode cX2_sweep 26 = .ok (.aload_n 0, 1) := by decide +kernel
theorem dX2_sweep_27 : decode cX2_sweep 27 = .ok (.getfield 15, 3) := by decide +kernel
theorem dX2_sweep_30 : decode cX2_sweep 30 = .ok (.iload_n 1, 1) := by decide +kernel
theorem dX2_sweep_31 : decode cX2_sweep 31 = .ok (.iaload, 1) := by decide +kernel
theorem dX2_sweep_32 : decode cX2_sweep 32 = .ok (.i2l, 1) := by decide +kernel
theorem dX2_sweep_33 : decode cX2_sweep 33 = .ok (.lmul, 1) := by decide +kernel
theorem dX2_sweep_34 : decode cX2_sweep 34 = .ok (.lsub, 1) := by decide +kernel
theorem dX2_sweep_35 : decode cX2_sweep 35 = .ok (.lreturn, 1) := by decide +kernel
theorem dX2_rightward_0 : decode cX2_rightward 0 = .ok (.aload_n 0, 1) := by decide +kernel
theorem dX2_rightward_1 : decode cX2_rightward 1 = .ok (.getfield 9, 3) := by decide +kernel
theorem dX2_rightward_4 : decode cX2_rightward 4 = .ok (.iconst 2, 1) := by decide +kernel
theorem dX2_rightward_5 : decode cX2_rightward 5 = .ok (.iload_n 1, 1) := by decide +kernel
theorem dX2_rightward_6 : decode cX2_rightward 6 = .ok (.imul, 1) := by decide +kernel
theorem dX2_rightward_7 : decode cX2_rightward 7 = .ok (.iaload, 1) := by decide +kernel
theorem dX2_rightward_8 : decode cX2_rightward 8 = .ok (.aload_n 0, 1) := by decide +kernel
theorem dX2_rightward_9 : decode cX2_rightward 9 = .ok (.getfield 9, 3) := by decide +kernel
theorem dX2_rightward_12 : decode cX2_rightward 12 = .ok (.iconst 2, 1) := by decide +kernel
theorem dX2_rightward_13 : decode cX2_rightward 13 = .ok (.iload_n 1, 1) := by decide +kernel
theorem dX2_rightward_14 : decode cX2_rightward 14 = .ok (.imul, 1) := by decide +kernel
theorem dX2_rightward_15 : decode cX2_rightward 15 = .ok (.iconst 1, 1) := by decide +kernel
theorem dX2_rightward_16 : decode cX2_rightward 16 = .ok (.iadd, 1) := by decide +kernel
theorem dX2_rightward_17 : decode cX2_rightward 17 = .ok (.iaload, 1) := by decide +kernel
theorem dX2_rightward_18 : decode cX2_rightward 18 = .ok (.if_icmp .gt 9, 3) := by decide +kernel
theorem dX2_rightward_21 : decode cX2_rightward 21 = .ok (.iconst 2, 1) := by decide +kernel
theorem dX2_rightward_22 : decode cX2_rightward 22 = .ok (.iload_n 1, 1) := by decide +kernel
theorem dX2_rightward_23 : decode cX2_rightward 23 = .ok (.imul, 1) := by decide +kernel
theorem dX2_rightward_24 : decode cX2_rightward 24 = .ok (.goto 8, 3) := by decide +kernel
theorem dX2_rightward_27 : decode cX2_rightward 27 = .ok (.iconst 2, 1) := by decide +kernel
theorem dX2_rightward_28 : decode cX2_rightward 28 = .ok (.iload_n 1, 1) := by decide +kernel
theorem dX2_rightward_29 : decode cX2_rightward 29 = .ok (.imul, 1) := by decide +kernel
theorem dX2_rightward_30 : decode cX2_rightward 30 = .ok (.iconst 1, 1) := by decide +kernel
theorem dX2_rightward_31 : decode cX2_rightward 31 = .ok (.iadd, 1) := by decide +kernel
theorem dX2_rightward_32 : decode cX2_rightward 32 = .ok (.ireturn, 1) := by decide +kernel
set_option maxRecDepth 20000 in
theorem ggX2_roofs_X2_rightward : GoodIn wsX2_roofs wsX2_rightward := goodIn_r _ [6, 1, 12, 13, 14, 15] (by decide +kernel) (by decide +kernel)
set_option maxRecDepth 20000 in
theorem gX2_roofs_X2_rightward : GoodIn wsX2_roofs (wsV RX2 58 RX2 yX2_rightward wsX2_rightward) := goodIn_app (goodIn_of _ (by decide +kernel)) ggX2_roofs_X2_rightward
set_option maxRecDepth 20000 in
theorem ggX2_roofs_X2_side : GoodIn wsX2_roofs wsX2_side := goodIn_r _ [10, 1, 11, 12, 13, 14, 15] (by decide +kernel) (by decide +kernel)
set_option maxRecDepth 20000 in
theorem gX2_roofs_X2_side : GoodIn wsX2_roofs (wsV RX2 46 RX2 yX2_side wsX2_side) := goodIn_app (goodIn_of _ (by decide +kernel)) ggX2_roofs_X2_side
theorem dX2_roofs_0 : decode cX2_roofs 0 = .ok (.aload_n 0, 1) := by decide +kernel
theorem dX2_roofs_1 : decode cX2_roofs 1 = .ok (.iload_n 1, 1) := by decide +kernel
theorem dX2_roofs_2 : decode cX2_roofs 2 = .ok (.invokevirtual 58, 3) := by decide +kernel
theorem dX2_roofs_5 : decode cX2_roofs 5 = .ok (.istore 4, 2) := by decide +kernel
theorem dX2_roofs_7 : decode cX2_roofs 7 = .ok (.aload_n 0, 1) := by decide +kernel
theorem dX2_roofs_8 : decode cX2_roofs 8 = .ok (.getfield 9, 3) := by decide +kernel
theorem dX2_roofs_11 : decode cX2_roofs 11 = .ok (.iload 4, 2) := by decide +kernel
theorem dX2_roofs_13 : decode cX2_roofs 13 = .ok (.iaload, 1) := by decide +kernel
theorem dX2_roofs_14 : decode cX2_roofs 14 = .ok (.iload_n 2, 1) := by decide +kernel
theorem dX2_roofs_15 : decode cX2_roofs 15 = .ok (.if_icmp .gt 33, 3) := by decide +kernel
theorem dX2_roofs_18 : decode cX2_roofs 18 = .ok (.iload_n 2, 1) := by decide +kernel
theorem dX2_roofs_19 : decode cX2_roofs 19 = .ok (.aload_n 0, 1) := by decide +kernel
theorem dX2_roofs_20 : decode cX2_roofs 20 = .ok (.getfield 9, 3) := by decide +kernel
theorem dX2_roofs_23 : decode cX2_roofs 23 = .ok (.iload 4, 2) := by decide +kernel
theorem dX2_roofs_25 : decode cX2_roofs 25 = .ok (.iconst 1, 1) := by decide +kernel
theorem dX2_roofs_26 : decode cX2_roofs 26 = .ok (.ixor, 1) := by decide +kernel
theorem dX2_roofs_27 : decode cX2_roofs 27 = .ok (.iaload, 1) := by decide +kernel
theorem dX2_roofs_28 : decode cX2_roofs 28 = .ok (.if_icmp .ge 20, 3) := by decide +kernel
theorem dX2_roofs_31 : decode cX2_roofs 31 = .ok (.aload_n 0, 1) := by decide +kernel
theorem dX2_roofs_32 : decode cX2_roofs 32 = .ok (.iload 4, 2) := by decide +kernel
theorem dX2_roofs_34 : decode cX2_roofs 34 = .ok (.iload_n 2, 1) := by decide +kernel
theorem dX2_roofs_35 : decode cX2_roofs 35 = .ok (.iload_n 3, 1) := by decide +kernel
theorem dX2_roofs_36 : decode cX2_roofs 36 = .ok (.invokevirtual 46, 3) := by decide +kernel
theorem dX2_roofs_39 : decode cX2_roofs 39 = .ok (.lconst 0, 1) := by decide +kernel
theorem dX2_roofs_40 : decode cX2_roofs 40 = .ok (.lcmp, 1) := by decide +kernel
theorem dX2_roofs_41 : decode cX2_roofs 41 = .ok (.ifCond .ge 7, 3) := by decide +kernel
theorem dX2_roofs_44 : decode cX2_roofs 44 = .ok (.iconst 1, 1) := by decide +kernel
theorem dX2_roofs_45 : decode cX2_roofs 45 = .ok (.goto 4, 3) := by decide +kernel
theorem dX2_roofs_48 : decode cX2_roofs 48 = .ok (.iconst 0, 1) := by decide +kernel
theorem dX2_roofs_49 : decode cX2_roofs 49 = .ok (.ireturn, 1) := by decide +kernel
set_option maxRecDepth 20000 in
theorem ggX2_firstUpFrom_X2_reachesAbove : GoodIn wsX2_firstUpFrom wsX2_reachesAbove := goodIn_r _ [6, 7, 8, 9, 10, 11, 12, 13, 14, 15, 5, 16, 17, 18, 19, 20, 35, 36, 37, 38] (by decide +kernel) (by decide +kernel)
set_option maxRecDepth 20000 in
theorem gX2_firstUpFrom_X2_reachesAbove : GoodIn wsX2_firstUpFrom (wsV RX2 62 RX2 yX2_reachesAbove wsX2_reachesAbove) := goodIn_app (goodIn_of _ (by decide +kernel)) ggX2_firstUpFrom_X2_reachesAbove
set_option maxRecDepth 20000 in
theorem ggX2_firstUpFrom_X2_height : GoodIn wsX2_firstUpFrom wsX2_height := goodIn_r _ [24, 7, 8, 25, 26, 11, 27, 9, 10, 12, 13, 14, 15, 5, 16, 35, 36, 37, 38] (by decide +kernel) (by decide +kernel)
set_option maxRecDepth 20000 in
theorem gX2_firstUpFrom_X2_height : GoodIn wsX2_firstUpFrom (wsV RX2 65 RX2 yX2_height wsX2_height) := goodIn_app (goodIn_of _ (by decide +kernel)) ggX2_firstUpFrom_X2_height
set_option maxRecDepth 20000 in
theorem ggX2_firstUpFrom_X2_width : GoodIn wsX2_firstUpFrom wsX2_width := goodIn_r _ [31, 7, 32, 33, 11, 34, 9, 10, 12, 35, 36, 37, 38] (by decide +kernel) (by decide +kernel)
set_option maxRecDepth 20000 in
theorem gX2_firstUpFrom_X2_width : GoodIn wsX2_firstUpFrom (wsV RX2 68 RX2 yX2_width wsX2_width) := goodIn_app (goodIn_of _ (by decide +kernel)) ggX2_firstUpFrom_X2_width
theorem dX2_firstUpFrom_0 : decode cX2_firstUpFrom 0 = .ok (.iconst (-1), 1) := by decide +kernel
theorem dX2_firstUpFrom_1 : decode cX2_firstUpFrom 1 = .ok (.istore_n 3, 1) := by decide +kernel
theorem dX2_firstUpFrom_2 : decode cX2_firstUpFrom 2 = .ok (.lconst 0, 1) := by decide +kernel
theorem dX2_firstUpFrom_3 : decode cX2_firstUpFrom 3 = .ok (.lstore 4, 2) := by decide +kernel
theorem dX2_firstUpFrom_5 : decode cX2_firstUpFrom 5 = .ok (.lconst 1, 1) := by decide +kernel
theorem dX2_firstUpFrom_6 : decode cX2_firstUpFrom 6 = .ok (.lstore 6, 2) := by decide +kernel
theorem dX2_firstUpFrom_8 : decode cX2_firstUpFrom 8 = .ok (.iconst 0, 1) := by decide +kernel
theorem dX2_firstUpFrom_9 : decode cX2_firstUpFrom 9 = .ok (.istore 8, 2) := by decide +kernel
theorem dX2_firstUpFrom_11 : decode cX2_firstUpFrom 11 = .ok (.iload 8, 2) := by decide +kernel
theorem dX2_firstUpFrom_13 : decode cX2_firstUpFrom 13 = .ok (.bipush 60, 2) := by decide +kernel
theorem dX2_firstUpFrom_15 : decode cX2_firstUpFrom 15 = .ok (.if_icmp .ge 78, 3) := by decide +kernel
theorem dX2_firstUpFrom_18 : decode cX2_firstUpFrom 18 = .ok (.aload_n 0, 1) := by decide +kernel
theorem dX2_firstUpFrom_19 : decode cX2_firstUpFrom 19 = .ok (.getfield 18, 3) := by decide +kernel
theorem dX2_firstUpFrom_22 : decode cX2_firstUpFrom 22 = .ok (.iload 8, 2) := by decide +kernel
theorem dX2_firstUpFrom_24 : decode cX2_firstUpFrom 24 = .ok (.baload, 1) := by decide +kernel
theorem dX2_firstUpFrom_25 : decode cX2_firstUpFrom 25 = .ok (.ifCond .eq 62, 3) := by decide +kernel
theorem dX2_firstUpFrom_28 : decode cX2_firstUpFrom 28 = .ok (.aload_n 0, 1) := by decide +kernel
theorem dX2_firstUpFrom_29 : decode cX2_firstUpFrom 29 = .ok (.iload 8, 2) := by decide +kernel
theorem dX2_firstUpFrom_31 : decode cX2_firstUpFrom 31 = .ok (.iload_n 1, 1) := by decide +kernel
theorem dX2_firstUpFrom_32 : decode cX2_firstUpFrom 32 = .ok (.iload_n 2, 1) := by decide +kernel
theorem dX2_firstUpFrom_33 : decode cX2_firstUpFrom 33 = .ok (.invokevirtual 62, 3) := by decide +kernel
theorem dX2_firstUpFrom_36 : decode cX2_firstUpFrom 36 = .ok (.ifCond .eq 51, 3) := by decide +kernel
theorem dX2_firstUpFrom_39 : decode cX2_firstUpFrom 39 = .ok (.aload_n 0, 1) := by decide +kernel
theorem dX2_firstUpFrom_40 : decode cX2_firstUpFrom 40 = .ok (.iload 8, 2) := by decide +kernel
theorem dX2_firstUpFrom_42 : decode cX2_firstUpFrom 42 = .ok (.iload_n 1, 1) := by decide +kernel
theorem dX2_firstUpFrom_43 : decode cX2_firstUpFrom 43 = .ok (.iload_n 2, 1) := by decide +kernel
theorem dX2_firstUpFrom_44 : decode cX2_firstUpFrom 44 = .ok (.invokevirtual 65, 3) := by decide +kernel
theorem dX2_firstUpFrom_47 : decode cX2_firstUpFrom 47 = .ok (.lstore 9, 2) := by decide +kernel
theorem dX2_firstUpFrom_49 : decode cX2_firstUpFrom 49 = .ok (.aload_n 0, 1) := by decide +kernel
theorem dX2_firstUpFrom_50 : decode cX2_firstUpFrom 50 = .ok (.iload 8, 2) := by decide +kernel
theorem dX2_firstUpFrom_52 : decode cX2_firstUpFrom 52 = .ok (.invokevirtual 68, 3) := by decide +kernel
theorem dX2_firstUpFrom_55 : decode cX2_firstUpFrom 55 = .ok (.lstore 11, 2) := by decide +kernel
theorem dX2_firstUpFrom_57 : decode cX2_firstUpFrom 57 = .ok (.iload_n 3, 1) := by decide +kernel
theorem dX2_firstUpFrom_58 : decode cX2_firstUpFrom 58 = .ok (.iconst (-1), 1) := by decide +kernel
theorem dX2_firstUpFrom_59 : decode cX2_firstUpFrom 59 = .ok (.if_icmp .eq 17, 3) := by decide +kernel
theorem dX2_firstUpFrom_62 : decode cX2_firstUpFrom 62 = .ok (.lload 9, 2) := by decide +kernel
theorem dX2_firstUpFrom_64 : decode cX2_firstUpFrom 64 = .ok (.lload 6, 2) := by decide +kernel
theorem dX2_firstUpFrom_66 : decode cX2_firstUpFrom 66 = .ok (.lmul, 1) := by decide +kernel
theorem dX2_firstUpFrom_67 : decode cX2_firstUpFrom 67 = .ok (.lload 4, 2) := by decide +kernel
theorem dX2_firstUpFrom_69 : decode cX2_firstUpFrom 69 = .ok (.lload 11, 2) := by decide +kernel
theorem dX2_firstUpFrom_71 : decode cX2_firstUpFrom 71 = .ok (.lmul, 1) := by decide +kernel
theorem dX2_firstUpFrom_72 : decode cX2_firstUpFrom 72 = .ok (.lcmp, 1) := by decide +kernel
theorem dX2_firstUpFrom_73 : decode cX2_firstUpFrom 73 = .ok (.ifCond .ge 14, 3) := by decide +kernel
theorem dX2_firstUpFrom_76 : decode cX2_firstUpFrom 76 = .ok (.iload 8, 2) := by decide +kernel
theorem dX2_firstUpFrom_78 : decode cX2_firstUpFrom 78 = .ok (.istore_n 3, 1) := by decide +kernel
theorem dX2_firstUpFrom_79 : decode cX2_firstUpFrom 79 = .ok (.lload 9, 2) := by decide +kernel
theorem dX2_firstUpFrom_81 : decode cX2_firstUpFrom 81 = .ok (.lstore 4, 2) := by decide +kernel
theorem dX2_firstUpFrom_83 : decode cX2_firstUpFrom 83 = .ok (.lload 11, 2) := by decide +kernel
theorem dX2_firstUpFrom_85 : decode cX2_firstUpFrom 85 = .ok (.lstore 6, 2) := by decide +kernel
theorem dX2_firstUpFrom_87 : decode cX2_firstUpFrom 87 = .ok (.iinc 8 1, 3) := by decide +kernel
theorem dX2_firstUpFrom_90 : decode cX2_firstUpFrom 90 = .ok (.goto (-79), 3) := by decide +kernel
theorem dX2_firstUpFrom_93 : decode cX2_firstUpFrom 93 = .ok (.iload_n 3, 1) := by decide +kernel
theorem dX2_firstUpFrom_94 : decode cX2_firstUpFrom 94 = .ok (.ireturn, 1) := by decide +kernel
set_option maxRecDepth 20000 in
theorem ggX2_reachesAbove_X2_rightward : GoodIn wsX2_reachesAbove wsX2_rightward := goodIn_r _ [11, 1, 16, 17, 18, 19] (by decide +kernel) (by decide +kernel)
set_option maxRecDepth 20000 in
theorem gX2_reachesAbove_X2_rightward : GoodIn wsX2_reachesAbove (wsV RX2 58 RX2 yX2_rightward wsX2_rightward) := goodIn_app (goodIn_of _ (by decide +kernel)) ggX2_reachesAbove_X2_rightward
set_option maxRecDepth 20000 in
theorem ggX2_reachesAbove_X2_side : GoodIn wsX2_reachesAbove wsX2_side := goodIn_r _ [15, 1, 2, 16, 17, 18, 19] (by decide +kernel) (by decide +kernel)
set_option maxRecDepth 20000 in
theorem gX2_reachesAbove_X2_side : GoodIn wsX2_reachesAbove (wsV RX2 46 RX2 yX2_side wsX2_side) := goodIn_app (goodIn_of _ (by decide +kernel)) ggX2_reachesAbove_X2_side
theorem dX2_reachesAbove_0 : decode cX2_reachesAbove 0 = .ok (.aload_n 0, 1) := by decide +kernel
theorem dX2_reachesAbove_1 : decode cX2_reachesAbove 1 = .ok (.iload_n 1, 1) := by decide +kernel
theorem dX2_reachesAbove_2 : decode cX2_reachesAbove 2 = .ok (.invokevirtual 58, 3) := by decide +kernel
theorem dX2_reachesAbove_5 : decode cX2_reachesAbove 5 = .ok (.istore 4, 2) := by decide +kernel
theorem dX2_reachesAbove_7 : decode cX2_reachesAbove 7 = .ok (.iload_n 2, 1) := by decide +kernel
theorem dX2_reachesAbove_8 : decode cX2_reachesAbove 8 = .ok (.aload_n 0, 1) := by decide +kernel
theorem dX2_reachesAbove_9 : decode cX2_reachesAbove 9 = .ok (.getfield 9, 3) := by decide +kernel
theorem dX2_reachesAbove_12 : decode cX2_reachesAbove 12 = .ok (.iload 4, 2) := by decide +kernel
theorem dX2_reachesAbove_14 : decode cX2_reachesAbove 14 = .ok (.iaload, 1) := by decide +kernel
theorem dX2_reachesAbove_15 : decode cX2_reachesAbove 15 = .ok (.if_icmp .lt 16, 3) := by decide +kernel
theorem dX2_reachesAbove_18 : decode cX2_reachesAbove 18 = .ok (.iload_n 2, 1) := by decide +kernel
theorem dX2_reachesAbove_19 : decode cX2_reachesAbove 19 = .ok (.aload_n 0, 1) := by decide +kernel
theorem dX2_reachesAbove_20 : decode cX2_reachesAbove 20 = .ok (.getfield 9, 3) := by decide +kernel
theorem dX2_reachesAbove_23 : decode cX2_reachesAbove 23 = .ok (.iload 4, 2) := by decide +kernel
theorem dX2_reachesAbove_25 : decode cX2_reachesAbove 25 = .ok (.iconst 1, 1) := by decide +kernel
theorem dX2_reachesAbove_26 : decode cX2_reachesAbove 26 = .ok (.ixor, 1) := by decide +kernel
theorem dX2_reachesAbove_27 : decode cX2_reachesAbove 27 = .ok (.iaload, 1) := by decide +kernel
theorem dX2_reachesAbove_28 : decode cX2_reachesAbove 28 = .ok (.if_icmp .le 5, 3) := by decide +kernel
theorem dX2_reachesAbove_31 : decode cX2_reachesAbove 31 = .ok (.iconst 0, 1) := by decide +kernel
theorem dX2_reachesAbove_32 : decode cX2_reachesAbove 32 = .ok (.ireturn, 1) := by decide +kernel
theorem dX2_reachesAbove_33 : decode cX2_reachesAbove 33 = .ok (.aload_n 0, 1) := by decide +kernel
theorem dX2_reachesAbove_34 : decode cX2_reachesAbove 34 = .ok (.getfield 9, 3) := by decide +kernel
theorem dX2_reachesAbove_37 : decode cX2_reachesAbove 37 = .ok (.iload 4, 2) := by decide +kernel
theorem dX2_reachesAbove_39 : decode cX2_reachesAbove 39 = .ok (.iaload, 1) := by decide +kernel
theorem dX2_reachesAbove_40 : decode cX2_reachesAbove 40 = .ok (.aload_n 0, 1) := by decide +kernel
theorem dX2_reachesAbove_41 : decode cX2_reachesAbove 41 = .ok (.getfield 9, 3) := by decide +kernel
theorem dX2_reachesAbove_44 : decode cX2_reachesAbove 44 = .ok (.iload 4, 2) := by decide +kernel
theorem dX2_reachesAbove_46 : decode cX2_reachesAbove 46 = .ok (.iconst 1, 1) := by decide +kernel
theorem dX2_reachesAbove_47 : decode cX2_reachesAbove 47 = .ok (.ixor, 1) := by decide +kernel
theorem dX2_reachesAbove_48 : decode cX2_reachesAbove 48 = .ok (.iaload, 1) := by decide +kernel
theorem dX2_reachesAbove_49 : decode cX2_reachesAbove 49 = .ok (.if_icmp .ne 32, 3) := by decide +kernel
theorem dX2_reachesAbove_52 : decode cX2_reachesAbove 52 = .ok (.aload_n 0, 1) := by decide +kernel
theorem dX2_reachesAbove_53 : decode cX2_reachesAbove 53 = .ok (.getfield 15, 3) := by decide +kernel
theorem dX2_reachesAbove_56 : decode cX2_reachesAbove 56 = .ok (.iload 4, 2) := by decide +kernel
theorem dX2_reachesAbove_58 : decode cX2_reachesAbove 58 = .ok (.iaload, 1) := by decide +kernel
theorem dX2_reachesAbove_59 : decode cX2_reachesAbove 59 = .ok (.aload_n 0, 1) := by decide +kernel
theorem dX2_reachesAbove_60 : decode cX2_reachesAbove 60 = .ok (.getfield 15, 3) := by decide +kernel
theorem dX2_reachesAbove_63 : decode cX2_reachesAbove 63 = .ok (.iload 4, 2) := by decide +kernel
theorem dX2_reachesAbove_65 : decode cX2_reachesAbove 65 = .ok (.iconst 1, 1) := by decide +kernel
theorem dX2_reachesAbove_66 : decode cX2_reachesAbove 66 = .ok (.ixor, 1) := by decide +kernel
theorem dX2_reachesAbove_67 : decode cX2_reachesAbove 67 = .ok (.iaload, 1) := by decide +kernel
theorem dX2_reachesAbove_68 : decode cX2_reachesAbove 68 = .ok (.invokestatic 72, 3) := by decide +kernel
theorem dX2_reachesAbove_71 : decode cX2_reachesAbove 71 = .ok (.iload_n 3, 1) := by decide +kernel
theorem dX2_reachesAbove_72 : decode cX2_reachesAbove 72 = .ok (.if_icmp .le 7, 3) := by decide +kernel
theorem dX2_reachesAbove_75 : decode cX2_reachesAbove 75 = .ok (.iconst 1, 1) := by decide +kernel
theorem dX2_reachesAbove_76 : decode cX2_reachesAbove 76 = .ok (.goto 4, 3) := by decide +kernel
theorem dX2_reachesAbove_79 : decode cX2_reachesAbove 79 = .ok (.iconst 0, 1) := by decide +kernel
theorem dX2_reachesAbove_80 : decode cX2_reachesAbove 80 = .ok (.ireturn, 1) := by decide +kernel
theorem dX2_reachesAbove_81 : decode cX2_reachesAbove 81 = .ok (.aload_n 0, 1) := by decide +kernel
theorem dX2_reachesAbove_82 : decode cX2_reachesAbove 82 = .ok (.iload 4, 2) := by decide +kernel
theorem dX2_reachesAbove_84 : decode cX2_reachesAbove 84 = .ok (.iload_n 2, 1) := by decide +kernel
theorem dX2_reachesAbove_85 : decode cX2_reachesAbove 85 = .ok (.iload_n 3, 1) := by decide +kernel
theorem dX2_reachesAbove_86 : decode cX2_reachesAbove 86 = .ok (.invokevirtual 46, 3) := by decide +kernel
theorem dX2_reachesAbove_89 : decode cX2_reachesAbove 89 = .ok (.lconst 0, 1) := by decide +kernel
theorem dX2_reachesAbove_90 : decode cX2_reachesAbove 90 = .ok (.lcmp, 1) := by decide +kernel
theorem dX2_reachesAbove_91 : decode cX2_reachesAbove 91 = .ok (.ifCond .ge 7, 3) := by decide +kernel
theorem dX2_reachesAbove_94 : decode cX2_reachesAbove 94 = .ok (.iconst 1, 1) := by decide +kernel
theorem dX2_reachesAbove_95 : decode cX2_reachesAbove 95 = .ok (.goto 4, 3) := by decide +kernel
theorem dX2_reachesAbove_98 : decode cX2_reachesAbove 98 = .ok (.iconst 0, 1) := by decide +kernel
theorem dX2_reachesAbove_99 : decode cX2_reachesAbove 99 = .ok (.ireturn, 1) := by decide +kernel
set_option maxRecDepth 20000 in
theorem ggX2_height_X2_rightward : GoodIn wsX2_height wsX2_rightward := goodIn_r _ [14, 1, 15, 16, 17, 18] (by decide +kernel) (by decide +kernel)
set_option maxRecDepth 20000 in
theorem gX2_height_X2_rightward : GoodIn wsX2_height (wsV RX2 58 RX2 yX2_rightward wsX2_rightward) := goodIn_app (goodIn_of _ (by decide +kernel)) ggX2_height_X2_rightward
theorem dX2_height_0 : decode cX2_height 0 = .ok (.aload_n 0, 1) := by decide +kernel
theorem dX2_height_1 : decode cX2_height 1 = .ok (.iload_n 1, 1) := by decide +kernel
theorem dX2_height_2 : decode cX2_height 2 = .ok (.invokevirtual 58, 3) := by decide +kernel
theorem dX2_height_5 : decode cX2_height 5 = .ok (.istore 4, 2) := by decide +kernel
theorem dX2_height_7 : decode cX2_height 7 = .ok (.aload_n 0, 1) := by decide +kernel
theorem dX2_height_8 : decode cX2_height 8 = .ok (.getfield 9, 3) := by decide +kernel
theorem dX2_height_11 : decode cX2_height 11 = .ok (.iload 4, 2) := by decide +kernel
theorem dX2_height_13 : decode cX2_height 13 = .ok (.iconst 1, 1) := by decide +kernel
theorem dX2_height_14 : decode cX2_height 14 = .ok (.ixor, 1) := by decide +kernel
theorem dX2_height_15 : decode cX2_height 15 = .ok (.iaload, 1) := by decide +kernel
theorem dX2_height_16 : decode cX2_height 16 = .ok (.aload_n 0, 1) := by decide +kernel
theorem dX2_height_17 : decode cX2_height 17 = .ok (.getfield 9, 3) := by decide +kernel
theorem dX2_height_20 : decode cX2_height 20 = .ok (.iload 4, 2) := by decide +kernel
theorem dX2_height_22 : decode cX2_height 22 = .ok (.iaload, 1) := by decide +kernel
theorem dX2_height_23 : decode cX2_height 23 = .ok (.isub, 1) := by decide +kernel
theorem dX2_height_24 : decode cX2_height 24 = .ok (.i2l, 1) := by decide +kernel
theorem dX2_height_25 : decode cX2_height 25 = .ok (.lstore 5, 2) := by decide +kernel
theorem dX2_height_27 : decode cX2_height 27 = .ok (.lload 5, 2) := by decide +kernel
theorem dX2_height_29 : decode cX2_height 29 = .ok (.lconst 0, 1) := by decide +kernel
theorem dX2_height_30 : decode cX2_height 30 = .ok (.lcmp, 1) := by decide +kernel
theorem dX2_height_31 : decode cX2_height 31 = .ok (.ifCond .ne 28, 3) := by decide +kernel
theorem dX2_height_34 : decode cX2_height 34 = .ok (.iload_n 3, 1) := by decide +kernel
theorem dX2_height_35 : decode cX2_height 35 = .ok (.aload_n 0, 1) := by decide +kernel
theorem dX2_height_36 : decode cX2_height 36 = .ok (.getfield 15, 3) := by decide +kernel
theorem dX2_height_39 : decode cX2_height 39 = .ok (.iload 4, 2) := by decide +kernel
theorem dX2_height_41 : decode cX2_height 41 = .ok (.iaload, 1) := by decide +kernel
theorem dX2_height_42 : decode cX2_height 42 = .ok (.aload_n 0, 1) := by decide +kernel
theorem dX2_height_43 : decode cX2_height 43 = .ok (.getfield 15, 3) := by decide +kernel
theorem dX2_height_46 : decode cX2_height 46 = .ok (.iload 4, 2) := by decide +kernel
theorem dX2_height_48 : decode cX2_height 48 = .ok (.iconst 1, 1) := by decide +kernel
theorem dX2_height_49 : decode cX2_height 49 = .ok (.ixor, 1) := by decide +kernel
theorem dX2_height_50 : decode cX2_height 50 = .ok (.iaload, 1) := by decide +kernel
theorem dX2_height_51 : decode cX2_height 51 = .ok (.invokestatic 78, 3) := by decide +kernel
theorem dX2_height_54 : decode cX2_height 54 = .ok (.invokestatic 72, 3) := by decide +kernel
theorem dX2_height_57 : decode cX2_height 57 = .ok (.i2l, 1) := by decide +kernel
theorem dX2_height_58 : decode cX2_height 58 = .ok (.lreturn, 1) := by decide +kernel
theorem dX2_height_59 : decode cX2_height 59 = .ok (.aload_n 0, 1) := by decide +kernel
theorem dX2_height_60 : decode cX2_height 60 = .ok (.getfield 15, 3) := by decide +kernel
theorem dX2_height_63 : decode cX2_height 63 = .ok (.iload 4, 2) := by decide +kernel
theorem dX2_height_65 : decode cX2_height 65 = .ok (.iconst 1, 1) := by decide +kernel
theorem dX2_height_66 : decode cX2_height 66 = .ok (.ixor, 1) := by decide +kernel
theorem dX2_height_67 : decode cX2_height 67 = .ok (.iaload, 1) := by decide +kernel
theorem dX2_height_68 : decode cX2_height 68 = .ok (.aload_n 0, 1) := by decide +kernel
theorem dX2_height_69 : decode cX2_height 69 = .ok (.getfield 15, 3) := by decide +kernel
theorem dX2_height_72 : decode cX2_height 72 = .ok (.iload 4, 2) := by decide +kernel
theorem dX2_height_74 : decode cX2_height 74 = .ok (.iaload, 1) := by decide +kernel
theorem dX2_height_75 : decode cX2_height 75 = .ok (.isub, 1) := by decide +kernel
theorem dX2_height_76 : decode cX2_height 76 = .ok (.i2l, 1) := by decide +kernel
theorem dX2_height_77 : decode cX2_height 77 = .ok (.lstore 7, 2) := by decide +kernel
theorem dX2_height_79 : decode cX2_height 79 = .ok (.aload_n 0, 1) := by decide +kernel
theorem dX2_height_80 : decode cX2_height 80 = .ok (.getfield 15, 3) := by decide +kernel
theorem dX2_height_83 : decode cX2_height 83 = .ok (.iload 4, 2) := by decide +kernel
theorem dX2_height_85 : decode cX2_height 85 = .ok (.iaload, 1) := by decide +kernel
theorem dX2_height_86 : decode cX2_height 86 = .ok (.i2l, 1) := by decide +kernel
theorem dX2_height_87 : decode cX2_height 87 = .ok (.lload 5, 2) := by decide +kernel
theorem dX2_height_89 : decode cX2_height 89 = .ok (.lmul, 1) := by decide +kernel
theorem dX2_height_90 : decode cX2_height 90 = .ok (.lload 7, 2) := by decide +kernel
theorem dX2_height_92 : decode cX2_height 92 = .ok (.iload_n 2, 1) := by decide +kernel
theorem dX2_height_93 : decode cX2_height 93 = .ok (.aload_n 0, 1) := by decide +kernel
theorem dX2_height_94 : decode cX2_height 94 = .ok (.getfield 9, 3) := by decide +kernel
theorem dX2_height_97 : decode cX2_height 97 = .ok (.iload 4, 2) := by decide +kernel
theorem dX2_height_99 : decode cX2_height 99 = .ok (.iaload, 1) := by decide +kernel
theorem dX2_height_100 : decode cX2_height 100 = .ok (.isub, 1) := by decide +kernel
theorem dX2_height_101 : decode cX2_height 101 = .ok (.i2l, 1) := by decide +kernel
theorem dX2_height_102 : decode cX2_height 102 = .ok (.lmul, 1) := by decide +kernel
theorem dX2_height_103 : decode cX2_height 103 = .ok (.ladd, 1) := by decide +kernel
theorem dX2_height_104 : decode cX2_height 104 = .ok (.lreturn, 1) := by decide +kernel
theorem dX2_width_0 : decode cX2_width 0 = .ok (.iconst 1, 1) := by decide +kernel
theorem dX2_width_1 : decode cX2_width 1 = .ok (.aload_n 0, 1) := by decide +kernel
theorem dX2_width_2 : decode cX2_width 2 = .ok (.getfield 9, 3) := by decide +kernel
theorem dX2_width_5 : decode cX2_width 5 = .ok (.iconst 2, 1) := by decide +kernel
theorem dX2_width_6 : decode cX2_width 6 = .ok (.iload_n 1, 1) := by decide +kernel
theorem dX2_width_7 : decode cX2_width 7 = .ok (.imul, 1) := by decide +kernel
theorem dX2_width_8 : decode cX2_width 8 = .ok (.iconst 1, 1) := by decide +kernel
theorem dX2_width_9 : decode cX2_width 9 = .ok (.iadd, 1) := by decide +kernel
theorem dX2_width_10 : decode cX2_width 10 = .ok (.iaload, 1) := by decide +kernel
theorem dX2_width_11 : decode cX2_width 11 = .ok (.aload_n 0, 1) := by decide +kernel
theorem dX2_width_12 : decode cX2_width 12 = .ok (.getfield 9, 3) := by decide +kernel
theorem dX2_width_15 : decode cX2_width 15 = .ok (.iconst 2, 1) := by decide +kernel
theorem dX2_width_16 : decode cX2_width 16 = .ok (.iload_n 1, 1) := by decide +kernel
theorem dX2_width_17 : decode cX2_width 17 = .ok (.imul, 1) := by decide +kernel
theorem dX2_width_18 : decode cX2_width 18 = .ok (.iaload, 1) := by decide +kernel
theorem dX2_width_19 : decode cX2_width 19 = .ok (.isub, 1) := by decide +kernel
theorem dX2_width_20 : decode cX2_width 20 = .ok (.invokestatic 81, 3) := by decide +kernel
theorem dX2_width_23 : decode cX2_width 23 = .ok (.invokestatic 72, 3) := by decide +kernel
theorem dX2_width_26 : decode cX2_width 26 = .ok (.i2l, 1) := by decide +kernel
theorem dX2_width_27 : decode cX2_width 27 = .ok (.lreturn, 1) := by decide +kernel
