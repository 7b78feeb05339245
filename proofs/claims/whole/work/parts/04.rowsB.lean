set_option maxRecDepth 20000 in
theorem ggX0_init_X1_init : GoodIn wsX0_init wsX1_init := goodIn_r _ [18, 19, 2, 3, 20, 21, 22, 23, 10, 24, 25, 26, 27, 28, 29, 30, 31, 32, 33, 34, 35, 36, 37, 38, 39, 40, 41, 42, 62, 63, 64, 65, 43, 44, 45, 46, 47, 48, 49, 50, 51, 52, 53] (by decide +kernel) (by decide +kernel)
set_option maxRecDepth 20000 in
theorem gX0_init_X1_init_n11 : GoodIn wsX0_init (wsX1_init) := ggX0_init_X1_init
theorem dX0_init_0 : decode cX0_init 0 = .ok (.aload_n 0, 1) := by decide +kernel
theorem dX0_init_1 : decode cX0_init 1 = .ok (.invokespecial 3, 3) := by decide +kernel
theorem dX0_init_4 : decode cX0_init 4 = .ok (.aload_n 0, 1) := by decide +kernel
theorem dX0_init_5 : decode cX0_init 5 = .ok (.new 9, 3) := by decide +kernel
theorem dX0_init_8 : decode cX0_init 8 = .ok (.dup, 1) := by decide +kernel
theorem dX0_init_9 : decode cX0_init 9 = .ok (.invokespecial 11, 3) := by decide +kernel
theorem dX0_init_12 : decode cX0_init 12 = .ok (.putfield 12, 3) := by decide +kernel
theorem dX0_init_15 : decode cX0_init 15 = .ok (.aload_n 0, 1) := by decide +kernel
theorem dX0_init_16 : decode cX0_init 16 = .ok (.aload_n 0, 1) := by decide +kernel
theorem dX0_init_17 : decode cX0_init 17 = .ok (.getfield 12, 3) := by decide +kernel
theorem dX0_init_20 : decode cX0_init 20 = .ok (.getfield 18, 3) := by decide +kernel
theorem dX0_init_23 : decode cX0_init 23 = .ok (.putfield 22, 3) := by decide +kernel
theorem dX0_init_26 : decode cX0_init 26 = .ok (.aload_n 0, 1) := by decide +kernel
theorem dX0_init_27 : decode cX0_init 27 = .ok (.bipush 120, 2) := by decide +kernel
theorem dX0_init_29 : decode cX0_init 29 = .ok (.newarray .int, 2) := by decide +kernel
theorem dX0_init_31 : decode cX0_init 31 = .ok (.putfield 23, 3) := by decide +kernel
theorem dX0_init_34 : decode cX0_init 34 = .ok (.aload_n 0, 1) := by decide +kernel
theorem dX0_init_35 : decode cX0_init 35 = .ok (.bipush 120, 2) := by decide +kernel
theorem dX0_init_37 : decode cX0_init 37 = .ok (.newarray .int, 2) := by decide +kernel
theorem dX0_init_39 : decode cX0_init 39 = .ok (.putfield 27, 3) := by decide +kernel
theorem dX0_init_42 : decode cX0_init 42 = .ok (.aload_n 0, 1) := by decide +kernel
theorem dX0_init_43 : decode cX0_init 43 = .ok (.bipush 120, 2) := by decide +kernel
theorem dX0_init_45 : decode cX0_init 45 = .ok (.newarray .int, 2) := by decide +kernel
theorem dX0_init_47 : decode cX0_init 47 = .ok (.putfield 30, 3) := by decide +kernel
theorem dX0_init_50 : decode cX0_init 50 = .ok (.aload_n 0, 1) := by decide +kernel
theorem dX0_init_51 : decode cX0_init 51 = .ok (.bipush 60, 2) := by decide +kernel
theorem dX0_init_53 : decode cX0_init 53 = .ok (.newarray .int, 2) := by decide +kernel
theorem dX0_init_55 : decode cX0_init 55 = .ok (.putfield 33, 3) := by decide +kernel
theorem dX0_init_58 : decode cX0_init 58 = .ok (.aload_n 0, 1) := by decide +kernel
theorem dX0_init_59 : decode cX0_init 59 = .ok (.bipush 121, 2) := by decide +kernel
theorem dX0_init_61 : decode cX0_init 61 = .ok (.newarray .int, 2) := by decide +kernel
theorem dX0_init_63 : decode cX0_init 63 = .ok (.putfield 36, 3) := by decide +kernel
theorem dX0_init_66 : decode cX0_init 66 = .ok (.aload_n 0, 1) := by decide +kernel
theorem dX0_init_67 : decode cX0_init 67 = .ok (.iconst 1, 1) := by decide +kernel
theorem dX0_init_68 : decode cX0_init 68 = .ok (.putfield 39, 3) := by decide +kernel
theorem dX0_init_71 : decode cX0_init 71 = .ok (.return_, 1) := by decide +kernel
set_option maxRecDepth 20000 in
theorem ggX0_findHomes_X1_pieceOfRound : GoodIn wsX0_findHomes wsX1_pieceOfRound := goodIn_r _ [13, 14, 15, 58, 59, 60, 61, 62, 63, 64, 65, 66, 67, 68] (by decide +kernel) (by decide +kernel)
set_option maxRecDepth 20000 in
theorem gX0_findHomes_X1_pieceOfRound : GoodIn wsX0_findHomes (wsV RX0 59 RX1 yX1_pieceOfRound wsX1_pieceOfRound) := goodIn_app (goodIn_of _ (by decide +kernel)) ggX0_findHomes_X1_pieceOfRound
set_option maxRecDepth 20000 in
theorem ggX0_findHomes_X1_enclosing : GoodIn wsX0_findHomes wsX1_enclosing := goodIn_r _ [19, 20, 21, 22, 23, 24, 25, 12, 26, 27, 28, 29, 30, 31, 32, 33, 34, 35, 36, 37, 38, 39, 40, 41, 42, 43, 44, 45, 46, 47, 48, 49, 10, 11, 13, 14, 15, 58, 59, 60, 61, 62, 63, 64, 65, 66, 67, 68, 69, 70, 71, 72] (by decide +kernel) (by decide +kernel)
set_option maxRecDepth 20000 in
theorem gX0_findHomes_X1_enclosing : GoodIn wsX0_findHomes (wsV RX0 63 RX1 yX1_enclosing wsX1_enclosing) := goodIn_app (goodIn_of _ (by decide +kernel)) ggX0_findHomes_X1_enclosing
theorem dX0_findHomes_0 : decode cX0_findHomes 0 = .ok (.iconst 0, 1) := by decide +kernel
theorem dX0_findHomes_1 : decode cX0_findHomes 1 = .ok (.istore_n 1, 1) := by decide +kernel
theorem dX0_findHomes_2 : decode cX0_findHomes 2 = .ok (.iload_n 1, 1) := by decide +kernel
theorem dX0_findHomes_3 : decode cX0_findHomes 3 = .ok (.aload_n 0, 1) := by decide +kernel
theorem dX0_findHomes_4 : decode cX0_findHomes 4 = .ok (.getfield 12, 3) := by decide +kernel
theorem dX0_findHomes_7 : decode cX0_findHomes 7 = .ok (.getfield 43, 3) := by decide +kernel
theorem dX0_findHomes_10 : decode cX0_findHomes 10 = .ok (.if_icmp .ge 76, 3) := by decide +kernel
theorem dX0_findHomes_13 : decode cX0_findHomes 13 = .ok (.aload_n 0, 1) := by decide +kernel
theorem dX0_findHomes_14 : decode cX0_findHomes 14 = .ok (.getfield 12, 3) := by decide +kernel
theorem dX0_findHomes_17 : decode cX0_findHomes 17 = .ok (.getfield 44, 3) := by decide +kernel
theorem dX0_findHomes_20 : decode cX0_findHomes 20 = .ok (.iload_n 1, 1) := by decide +kernel
theorem dX0_findHomes_21 : decode cX0_findHomes 21 = .ok (.iaload, 1) := by decide +kernel
theorem dX0_findHomes_22 : decode cX0_findHomes 22 = .ok (.istore_n 2, 1) := by decide +kernel
theorem dX0_findHomes_23 : decode cX0_findHomes 23 = .ok (.aload_n 0, 1) := by decide +kernel
theorem dX0_findHomes_24 : decode cX0_findHomes 24 = .ok (.getfield 23, 3) := by decide +kernel
theorem dX0_findHomes_27 : decode cX0_findHomes 27 = .ok (.iload_n 1, 1) := by decide +kernel
theorem dX0_findHomes_28 : decode cX0_findHomes 28 = .ok (.aload_n 0, 1) := by decide +kernel
theorem dX0_findHomes_29 : decode cX0_findHomes 29 = .ok (.getfield 12, 3) := by decide +kernel
theorem dX0_findHomes_32 : decode cX0_findHomes 32 = .ok (.getfield 47, 3) := by decide +kernel
theorem dX0_findHomes_35 : decode cX0_findHomes 35 = .ok (.iload_n 1, 1) := by decide +kernel
theorem dX0_findHomes_36 : decode cX0_findHomes 36 = .ok (.laload, 1) := by decide +kernel
theorem dX0_findHomes_37 : decode cX0_findHomes 37 = .ok (.lconst 0, 1) := by decide +kernel
theorem dX0_findHomes_38 : decode cX0_findHomes 38 = .ok (.lcmp, 1) := by decide +kernel
theorem dX0_findHomes_39 : decode cX0_findHomes 39 = .ok (.ifCond .le 7, 3) := by decide +kernel
theorem dX0_findHomes_42 : decode cX0_findHomes 42 = .ok (.iload_n 1, 1) := by decide +kernel
theorem dX0_findHomes_43 : decode cX0_findHomes 43 = .ok (.goto 36, 3) := by decide +kernel
theorem dX0_findHomes_46 : decode cX0_findHomes 46 = .ok (.aload_n 0, 1) := by decide +kernel
theorem dX0_findHomes_47 : decode cX0_findHomes 47 = .ok (.getfield 12, 3) := by decide +kernel
theorem dX0_findHomes_50 : decode cX0_findHomes 50 = .ok (.aload_n 0, 1) := by decide +kernel
theorem dX0_findHomes_51 : decode cX0_findHomes 51 = .ok (.getfield 22, 3) := by decide +kernel
theorem dX0_findHomes_54 : decode cX0_findHomes 54 = .ok (.getfield 51, 3) := by decide +kernel
theorem dX0_findHomes_57 : decode cX0_findHomes 57 = .ok (.iload_n 2, 1) := by decide +kernel
theorem dX0_findHomes_58 : decode cX0_findHomes 58 = .ok (.iaload, 1) := by decide +kernel
theorem dX0_findHomes_59 : decode cX0_findHomes 59 = .ok (.aload_n 0, 1) := by decide +kernel
theorem dX0_findHomes_60 : decode cX0_findHomes 60 = .ok (.getfield 22, 3) := by decide +kernel
theorem dX0_findHomes_63 : decode cX0_findHomes 63 = .ok (.getfield 56, 3) := by decide +kernel
theorem dX0_findHomes_66 : decode cX0_findHomes 66 = .ok (.iload_n 2, 1) := by decide +kernel
theorem dX0_findHomes_67 : decode cX0_findHomes 67 = .ok (.iaload, 1) := by decide +kernel
theorem dX0_findHomes_68 : decode cX0_findHomes 68 = .ok (.aload_n 0, 1) := by decide +kernel
theorem dX0_findHomes_69 : decode cX0_findHomes 69 = .ok (.getfield 12, 3) := by decide +kernel
theorem dX0_findHomes_72 : decode cX0_findHomes 72 = .ok (.iload_n 1, 1) := by decide +kernel
theorem dX0_findHomes_73 : decode cX0_findHomes 73 = .ok (.invokevirtual 59, 3) := by decide +kernel
theorem dX0_findHomes_76 : decode cX0_findHomes 76 = .ok (.invokevirtual 63, 3) := by decide +kernel
theorem dX0_findHomes_79 : decode cX0_findHomes 79 = .ok (.iastore, 1) := by decide +kernel
theorem dX0_findHomes_80 : decode cX0_findHomes 80 = .ok (.iinc 1 1, 3) := by decide +kernel
theorem dX0_findHomes_83 : decode cX0_findHomes 83 = .ok (.goto (-81), 3) := by decide +kernel
theorem dX0_findHomes_86 : decode cX0_findHomes 86 = .ok (.return_, 1) := by decide +kernel
set_option maxRecDepth 20000 in
theorem ggX0_numberFaces_J7_fill_53178 : GoodIn wsX0_numberFaces wsJ7_fill_53178 := goodIn_r _ [12] (by decide +kernel) (by decide +kernel)
set_option maxRecDepth 20000 in
theorem gX0_numberFaces_J7_fill_53178 : GoodIn wsX0_numberFaces (va_wsS RX0 67 yJ7_fill_53178 wsJ7_fill_53178) := goodIn_app (goodIn_of _ (by decide +kernel)) ggX0_numberFaces_J7_fill_53178
set_option maxRecDepth 20000 in
theorem ggX0_numberFaces_X0_faceWithin : GoodIn wsX0_numberFaces wsX0_faceWithin := goodIn_r _ [17, 1, 18, 19, 20, 21, 22, 23, 24, 25] (by decide +kernel) (by decide +kernel)
set_option maxRecDepth 20000 in
theorem gX0_numberFaces_X0_faceWithin : GoodIn wsX0_numberFaces (wsV RX0 80 RX0 yX0_faceWithin wsX0_faceWithin) := goodIn_app (goodIn_of _ (by decide +kernel)) ggX0_numberFaces_X0_faceWithin
theorem dX0_numberFaces_0 : decode cX0_numberFaces 0 = .ok (.aload_n 0, 1) := by decide +kernel
theorem dX0_numberFaces_1 : decode cX0_numberFaces 1 = .ok (.getfield 27, 3) := by decide +kernel
theorem dX0_numberFaces_4 : decode cX0_numberFaces 4 = .ok (.iconst 0, 1) := by decide +kernel
theorem dX0_numberFaces_5 : decode cX0_numberFaces 5 = .ok (.invokestatic 67, 3) := by decide +kernel
theorem dX0_numberFaces_8 : decode cX0_numberFaces 8 = .ok (.aload_n 0, 1) := by decide +kernel
theorem dX0_numberFaces_9 : decode cX0_numberFaces 9 = .ok (.iconst 1, 1) := by decide +kernel
theorem dX0_numberFaces_10 : decode cX0_numberFaces 10 = .ok (.putfield 39, 3) := by decide +kernel
theorem dX0_numberFaces_13 : decode cX0_numberFaces 13 = .ok (.iconst 0, 1) := by decide +kernel
theorem dX0_numberFaces_14 : decode cX0_numberFaces 14 = .ok (.istore_n 1, 1) := by decide +kernel
theorem dX0_numberFaces_15 : decode cX0_numberFaces 15 = .ok (.iload_n 1, 1) := by decide +kernel
theorem dX0_numberFaces_16 : decode cX0_numberFaces 16 = .ok (.bipush 120, 2) := by decide +kernel
theorem dX0_numberFaces_18 : decode cX0_numberFaces 18 = .ok (.if_icmp .ge 93, 3) := by decide +kernel
theorem dX0_numberFaces_21 : decode cX0_numberFaces 21 = .ok (.aload_n 0, 1) := by decide +kernel
theorem dX0_numberFaces_22 : decode cX0_numberFaces 22 = .ok (.getfield 22, 3) := by decide +kernel
theorem dX0_numberFaces_25 : decode cX0_numberFaces 25 = .ok (.getfield 73, 3) := by decide +kernel
theorem dX0_numberFaces_28 : decode cX0_numberFaces 28 = .ok (.iload_n 1, 1) := by decide +kernel
theorem dX0_numberFaces_29 : decode cX0_numberFaces 29 = .ok (.iconst 1, 1) := by decide +kernel
theorem dX0_numberFaces_30 : decode cX0_numberFaces 30 = .ok (.ishr, 1) := by decide +kernel
theorem dX0_numberFaces_31 : decode cX0_numberFaces 31 = .ok (.baload, 1) := by decide +kernel
theorem dX0_numberFaces_32 : decode cX0_numberFaces 32 = .ok (.ifCond .eq 66, 3) := by decide +kernel
theorem dX0_numberFaces_35 : decode cX0_numberFaces 35 = .ok (.aload_n 0, 1) := by decide +kernel
theorem dX0_numberFaces_36 : decode cX0_numberFaces 36 = .ok (.getfield 23, 3) := by decide +kernel
theorem dX0_numberFaces_39 : decode cX0_numberFaces 39 = .ok (.aload_n 0, 1) := by decide +kernel
theorem dX0_numberFaces_40 : decode cX0_numberFaces 40 = .ok (.getfield 12, 3) := by decide +kernel
theorem dX0_numberFaces_43 : decode cX0_numberFaces 43 = .ok (.getfield 77, 3) := by decide +kernel
theorem dX0_numberFaces_46 : decode cX0_numberFaces 46 = .ok (.iload_n 1, 1) := by decide +kernel
theorem dX0_numberFaces_47 : decode cX0_numberFaces 47 = .ok (.iaload, 1) := by decide +kernel
theorem dX0_numberFaces_48 : decode cX0_numberFaces 48 = .ok (.iaload, 1) := by decide +kernel
theorem dX0_numberFaces_49 : decode cX0_numberFaces 49 = .ok (.istore_n 2, 1) := by decide +kernel
theorem dX0_numberFaces_50 : decode cX0_numberFaces 50 = .ok (.iload_n 2, 1) := by decide +kernel
theorem dX0_numberFaces_51 : decode cX0_numberFaces 51 = .ok (.iconst (-1), 1) := by decide +kernel
theorem dX0_numberFaces_52 : decode cX0_numberFaces 52 = .ok (.if_icmp .eq 32, 3) := by decide +kernel
theorem dX0_numberFaces_55 : decode cX0_numberFaces 55 = .ok (.aload_n 0, 1) := by decide +kernel
theorem dX0_numberFaces_56 : decode cX0_numberFaces 56 = .ok (.getfield 27, 3) := by decide +kernel
theorem dX0_numberFaces_59 : decode cX0_numberFaces 59 = .ok (.iload_n 2, 1) := by decide +kernel
theorem dX0_numberFaces_60 : decode cX0_numberFaces 60 = .ok (.iaload, 1) := by decide +kernel
theorem dX0_numberFaces_61 : decode cX0_numberFaces 61 = .ok (.ifCond .ne 23, 3) := by decide +kernel
theorem dX0_numberFaces_64 : decode cX0_numberFaces 64 = .ok (.aload_n 0, 1) := by decide +kernel
theorem dX0_numberFaces_65 : decode cX0_numberFaces 65 = .ok (.getfield 27, 3) := by decide +kernel
theorem dX0_numberFaces_68 : decode cX0_numberFaces 68 = .ok (.iload_n 2, 1) := by decide +kernel
theorem dX0_numberFaces_69 : decode cX0_numberFaces 69 = .ok (.aload_n 0, 1) := by decide +kernel
theorem dX0_numberFaces_70 : decode cX0_numberFaces 70 = .ok (.getfield 39, 3) := by decide +kernel
theorem dX0_numberFaces_73 : decode cX0_numberFaces 73 = .ok (.iastore, 1) := by decide +kernel
theorem dX0_numberFaces_74 : decode cX0_numberFaces 74 = .ok (.aload_n 0, 1) := by decide +kernel
theorem dX0_numberFaces_75 : decode cX0_numberFaces 75 = .ok (.dup, 1) := by decide +kernel
theorem dX0_numberFaces_76 : decode cX0_numberFaces 76 = .ok (.getfield 39, 3) := by decide +kernel
theorem dX0_numberFaces_79 : decode cX0_numberFaces 79 = .ok (.iconst 1, 1) := by decide +kernel
theorem dX0_numberFaces_80 : decode cX0_numberFaces 80 = .ok (.iadd, 1) := by decide +kernel
theorem dX0_numberFaces_81 : decode cX0_numberFaces 81 = .ok (.putfield 39, 3) := by decide +kernel
theorem dX0_numberFaces_84 : decode cX0_numberFaces 84 = .ok (.aload_n 0, 1) := by decide +kernel
theorem dX0_numberFaces_85 : decode cX0_numberFaces 85 = .ok (.getfield 30, 3) := by decide +kernel
theorem dX0_numberFaces_88 : decode cX0_numberFaces 88 = .ok (.iload_n 1, 1) := by decide +kernel
theorem dX0_numberFaces_89 : decode cX0_numberFaces 89 = .ok (.aload_n 0, 1) := by decide +kernel
theorem dX0_numberFaces_90 : decode cX0_numberFaces 90 = .ok (.iload_n 2, 1) := by decide +kernel
theorem dX0_numberFaces_91 : decode cX0_numberFaces 91 = .ok (.invokevirtual 80, 3) := by decide +kernel
theorem dX0_numberFaces_94 : decode cX0_numberFaces 94 = .ok (.iastore, 1) := by decide +kernel
theorem dX0_numberFaces_95 : decode cX0_numberFaces 95 = .ok (.goto 10, 3) := by decide +kernel
theorem dX0_numberFaces_98 : decode cX0_numberFaces 98 = .ok (.aload_n 0, 1) := by decide +kernel
theorem dX0_numberFaces_99 : decode cX0_numberFaces 99 = .ok (.getfield 30, 3) := by decide +kernel
theorem dX0_numberFaces_102 : decode cX0_numberFaces 102 = .ok (.iload_n 1, 1) := by decide +kernel
theorem dX0_numberFaces_103 : decode cX0_numberFaces 103 = .ok (.iconst (-1), 1) := by decide +kernel
theorem dX0_numberFaces_104 : decode cX0_numberFaces 104 = .ok (.iastore, 1) := by decide +kernel
theorem dX0_numberFaces_105 : decode cX0_numberFaces 105 = .ok (.iinc 1 1, 3) := by decide +kernel
theorem dX0_numberFaces_108 : decode cX0_numberFaces 108 = .ok (.goto (-93), 3) := by decide +kernel
theorem dX0_numberFaces_111 : decode cX0_numberFaces 111 = .ok (.return_, 1) := by decide +kernel
set_option maxRecDepth 20000 in
theorem ggX0_findOutsides_X1_pieceOfRound : GoodIn wsX0_findOutsides wsX1_pieceOfRound := goodIn_r _ [11, 12, 13, 22, 23, 24, 25, 26, 27, 28, 29, 30, 31, 32] (by decide +kernel) (by decide +kernel)
set_option maxRecDepth 20000 in
theorem gX0_findOutsides_X1_pieceOfRound : GoodIn wsX0_findOutsides (wsV RX0 59 RX1 yX1_pieceOfRound wsX1_pieceOfRound) := goodIn_app (goodIn_of _ (by decide +kernel)) ggX0_findOutsides_X1_pieceOfRound
theorem dX0_findOutsides_0 : decode cX0_findOutsides 0 = .ok (.iconst 0, 1) := by decide +kernel
theorem dX0_findOutsides_1 : decode cX0_findOutsides 1 = .ok (.istore_n 1, 1) := by decide +kernel
theorem dX0_findOutsides_2 : decode cX0_findOutsides 2 = .ok (.iload_n 1, 1) := by decide +kernel
theorem dX0_findOutsides_3 : decode cX0_findOutsides 3 = .ok (.aload_n 0, 1) := by decide +kernel
theorem dX0_findOutsides_4 : decode cX0_findOutsides 4 = .ok (.getfield 12, 3) := by decide +kernel
theorem dX0_findOutsides_7 : decode cX0_findOutsides 7 = .ok (.getfield 43, 3) := by decide +kernel
theorem dX0_findOutsides_10 : decode cX0_findOutsides 10 = .ok (.if_icmp .ge 46, 3) := by decide +kernel
theorem dX0_findOutsides_13 : decode cX0_findOutsides 13 = .ok (.aload_n 0, 1) := by decide +kernel
theorem dX0_findOutsides_14 : decode cX0_findOutsides 14 = .ok (.getfield 23, 3) := by decide +kernel
theorem dX0_findOutsides_17 : decode cX0_findOutsides 17 = .ok (.iload_n 1, 1) := by decide +kernel
theorem dX0_findOutsides_18 : decode cX0_findOutsides 18 = .ok (.iaload, 1) := by decide +kernel
theorem dX0_findOutsides_19 : decode cX0_findOutsides 19 = .ok (.iload_n 1, 1) := by decide +kernel
theorem dX0_findOutsides_20 : decode cX0_findOutsides 20 = .ok (.if_icmp .eq 30, 3) := by decide +kernel
theorem dX0_findOutsides_23 : decode cX0_findOutsides 23 = .ok (.aload_n 0, 1) := by decide +kernel
theorem dX0_findOutsides_24 : decode cX0_findOutsides 24 = .ok (.getfield 33, 3) := by decide +kernel
theorem dX0_findOutsides_27 : decode cX0_findOutsides 27 = .ok (.aload_n 0, 1) := by decide +kernel
theorem dX0_findOutsides_28 : decode cX0_findOutsides 28 = .ok (.getfield 12, 3) := by decide +kernel
theorem dX0_findOutsides_31 : decode cX0_findOutsides 31 = .ok (.iload_n 1, 1) := by decide +kernel
theorem dX0_findOutsides_32 : decode cX0_findOutsides 32 = .ok (.invokevirtual 59, 3) := by decide +kernel
theorem dX0_findOutsides_35 : decode cX0_findOutsides 35 = .ok (.aload_n 0, 1) := by decide +kernel
theorem dX0_findOutsides_36 : decode cX0_findOutsides 36 = .ok (.getfield 30, 3) := by decide +kernel
theorem dX0_findOutsides_39 : decode cX0_findOutsides 39 = .ok (.aload_n 0, 1) := by decide +kernel
theorem dX0_findOutsides_40 : decode cX0_findOutsides 40 = .ok (.getfield 12, 3) := by decide +kernel
theorem dX0_findOutsides_43 : decode cX0_findOutsides 43 = .ok (.getfield 44, 3) := by decide +kernel
theorem dX0_findOutsides_46 : decode cX0_findOutsides 46 = .ok (.iload_n 1, 1) := by decide +kernel
theorem dX0_findOutsides_47 : decode cX0_findOutsides 47 = .ok (.iaload, 1) := by decide +kernel
theorem dX0_findOutsides_48 : decode cX0_findOutsides 48 = .ok (.iaload, 1) := by decide +kernel
theorem dX0_findOutsides_49 : decode cX0_findOutsides 49 = .ok (.iastore, 1) := by decide +kernel
theorem dX0_findOutsides_50 : decode cX0_findOutsides 50 = .ok (.iinc 1 1, 3) := by decide +kernel
theorem dX0_findOutsides_53 : decode cX0_findOutsides 53 = .ok (.goto (-51), 3) := by decide +kernel
theorem dX0_findOutsides_56 : decode cX0_findOutsides 56 = .ok (.return_, 1) := by decide +kernel
theorem dX0_faceWithin_0 : decode cX0_faceWithin 0 = .ok (.iload_n 1, 1) := by decide +kernel
theorem dX0_faceWithin_1 : decode cX0_faceWithin 1 = .ok (.iconst (-1), 1) := by decide +kernel
theorem dX0_faceWithin_2 : decode cX0_faceWithin 2 = .ok (.if_icmp .ne 7, 3) := by decide +kernel
theorem dX0_faceWithin_5 : decode cX0_faceWithin 5 = .ok (.iconst 0, 1) := by decide +kernel
theorem dX0_faceWithin_6 : decode cX0_faceWithin 6 = .ok (.goto 9, 3) := by decide +kernel
theorem dX0_faceWithin_9 : decode cX0_faceWithin 9 = .ok (.aload_n 0, 1) := by decide +kernel
theorem dX0_faceWithin_10 : decode cX0_faceWithin 10 = .ok (.getfield 27, 3) := by decide +kernel
theorem dX0_faceWithin_13 : decode cX0_faceWithin 13 = .ok (.iload_n 1, 1) := by decide +kernel
theorem dX0_faceWithin_14 : decode cX0_faceWithin 14 = .ok (.iaload, 1) := by decide +kernel
theorem dX0_faceWithin_15 : decode cX0_faceWithin 15 = .ok (.ireturn, 1) := by decide +kernel
theorem dX0_bridges_0 : decode cX0_bridges 0 = .ok (.iconst 0, 1) := by decide +kernel
theorem dX0_bridges_1 : decode cX0_bridges 1 = .ok (.istore_n 1, 1) := by decide +kernel
theorem dX0_bridges_2 : decode cX0_bridges 2 = .ok (.iconst 0, 1) := by decide +kernel
theorem dX0_bridges_3 : decode cX0_bridges 3 = .ok (.istore_n 2, 1) := by decide +kernel
theorem dX0_bridges_4 : decode cX0_bridges 4 = .ok (.iload_n 2, 1) := by decide +kernel
theorem dX0_bridges_5 : decode cX0_bridges 5 = .ok (.bipush 60, 2) := by decide +kernel
theorem dX0_bridges_7 : decode cX0_bridges 7 = .ok (.if_icmp .ge 45, 3) := by decide +kernel
theorem dX0_bridges_10 : decode cX0_bridges 10 = .ok (.aload_n 0, 1) := by decide +kernel
theorem dX0_bridges_11 : decode cX0_bridges 11 = .ok (.getfield 22, 3) := by decide +kernel
theorem dX0_bridges_14 : decode cX0_bridges 14 = .ok (.getfield 73, 3) := by decide +kernel
theorem dX0_bridges_17 : decode cX0_bridges 17 = .ok (.iload_n 2, 1) := by decide +kernel
theorem dX0_bridges_18 : decode cX0_bridges 18 = .ok (.baload, 1) := by decide +kernel
theorem dX0_bridges_19 : decode cX0_bridges 19 = .ok (.ifCond .eq 27, 3) := by decide +kernel
theorem dX0_bridges_22 : decode cX0_bridges 22 = .ok (.aload_n 0, 1) := by decide +kernel
theorem dX0_bridges_23 : decode cX0_bridges 23 = .ok (.getfield 30, 3) := by decide +kernel
theorem dX0_bridges_26 : decode cX0_bridges 26 = .ok (.iconst 2, 1) := by decide +kernel
theorem dX0_bridges_27 : decode cX0_bridges 27 = .ok (.iload_n 2, 1) := by decide +kernel
theorem dX0_bridges_28 : decode cX0_bridges 28 = .ok (.imul, 1) := by decide +kernel
theorem dX0_bridges_29 : decode cX0_bridges 29 = .ok (.iaload, 1) := by decide +kernel
theorem dX0_bridges_30 : decode cX0_bridges 30 = .ok (.aload_n 0, 1) := by decide +kernel
theorem dX0_bridges_31 : decode cX0_bridges 31 = .ok (.getfield 30, 3) := by decide +kernel
theorem dX0_bridges_34 : decode cX0_bridges 34 = .ok (.iconst 2, 1) := by decide +kernel
theorem dX0_bridges_35 : decode cX0_bridges 35 = .ok (.iload_n 2, 1) := by decide +kernel
theorem dX0_bridges_36 : decode cX0_bridges 36 = .ok (.imul, 1) := by decide +kernel
theorem dX0_bridges_37 : decode cX0_bridges 37 = .ok (.iconst 1, 1) := by decide +kernel
theorem dX0_bridges_38 : decode cX0_bridges 38 = .ok (.iadd, 1) := by decide +kernel
theorem dX0_bridges_39 : decode cX0_bridges 39 = .ok (.iaload, 1) := by decide +kernel
theorem dX0_bridges_40 : decode cX0_bridges 40 = .ok (.if_icmp .ne 6, 3) := by decide +kernel
theorem dX0_bridges_43 : decode cX0_bridges 43 = .ok (.iinc 1 1, 3) := by decide +kernel
theorem dX0_bridges_46 : decode cX0_bridges 46 = .ok (.iinc 2 1, 3) := by decide +kernel
theorem dX0_bridges_49 : decode cX0_bridges 49 = .ok (.goto (-45), 3) := by decide +kernel
theorem dX0_bridges_52 : decode cX0_bridges 52 = .ok (.iload_n 1, 1) := by decide +kernel
theorem dX0_bridges_53 : decode cX0_bridges 53 = .ok (.ireturn, 1) := by decide +kernel
theorem dX0_twiceArea_0 : decode cX0_twiceArea 0 = .ok (.lconst 0, 1) := by decide +kernel
theorem dX0_twiceArea_1 : decode cX0_twiceArea 1 = .ok (.lstore_n 2, 1) := by decide +kernel
theorem dX0_twiceArea_2 : decode cX0_twiceArea 2 = .ok (.iconst 0, 1) := by decide +kernel
theorem dX0_twiceArea_3 : decode cX0_twiceArea 3 = .ok (.istore 4, 2) := by decide +kernel
theorem dX0_twiceArea_5 : decode cX0_twiceArea 5 = .ok (.iload 4, 2) := by decide +kernel
theorem dX0_twiceArea_7 : decode cX0_twiceArea 7 = .ok (.aload_n 0, 1) := by decide +kernel
theorem dX0_twiceArea_8 : decode cX0_twiceArea 8 = .ok (.getfield 12, 3) := by decide +kernel
theorem dX0_twiceArea_11 : decode cX0_twiceArea 11 = .ok (.getfield 43, 3) := by decide +kernel
theorem dX0_twiceArea_14 : decode cX0_twiceArea 14 = .ok (.if_icmp .ge 41, 3) := by decide +kernel
theorem dX0_twiceArea_17 : decode cX0_twiceArea 17 = .ok (.aload_n 0, 1) := by decide +kernel
theorem dX0_twiceArea_18 : decode cX0_twiceArea 18 = .ok (.getfield 30, 3) := by decide +kernel
theorem dX0_twiceArea_21 : decode cX0_twiceArea 21 = .ok (.aload_n 0, 1) := by decide +kernel
theorem dX0_twiceArea_22 : decode cX0_twiceArea 22 = .ok (.getfield 12, 3) := by decide +kernel
theorem dX0_twiceArea_25 : decode cX0_twiceArea 25 = .ok (.getfield 44, 3) := by decide +kernel
theorem dX0_twiceArea_28 : decode cX0_twiceArea 28 = .ok (.iload 4, 2) := by decide +kernel
theorem dX0_twiceArea_30 : decode cX0_twiceArea 30 = .ok (.iaload, 1) := by decide +kernel
theorem dX0_twiceArea_31 : decode cX0_twiceArea 31 = .ok (.iaload, 1) := by decide +kernel
theorem dX0_twiceArea_32 : decode cX0_twiceArea 32 = .ok (.iload_n 1, 1) := by decide +kernel
theorem dX0_twiceArea_33 : decode cX0_twiceArea 33 = .ok (.if_icmp .ne 16, 3) := by decide +kernel
theorem dX0_twiceArea_36 : decode cX0_twiceArea 36 = .ok (.lload_n 2, 1) := by decide +kernel
theorem dX0_twiceArea_37 : decode cX0_twiceArea 37 = .ok (.aload_n 0, 1) := by decide +kernel
theorem dX0_twiceArea_38 : decode cX0_twiceArea 38 = .ok (.getfield 12, 3) := by decide +kernel
theorem dX0_twiceArea_41 : decode cX0_twiceArea 41 = .ok (.getfield 47, 3) := by decide +kernel
theorem dX0_twiceArea_44 : decode cX0_twiceArea 44 = .ok (.iload 4, 2) := by decide +kernel
theorem dX0_twiceArea_46 : decode cX0_twiceArea 46 = .ok (.laload, 1) := by decide +kernel
theorem dX0_twiceArea_47 : decode cX0_twiceArea 47 = .ok (.ladd, 1) := by decide +kernel
theorem dX0_twiceArea_48 : decode cX0_twiceArea 48 = .ok (.lstore_n 2, 1) := by decide +kernel
theorem dX0_twiceArea_49 : decode cX0_twiceArea 49 = .ok (.iinc 4 1, 3) := by decide +kernel
theorem dX0_twiceArea_52 : decode cX0_twiceArea 52 = .ok (.goto (-47), 3) := by decide +kernel
theorem dX0_twiceArea_55 : decode cX0_twiceArea 55 = .ok (.lload_n 2, 1) := by decide +kernel
theorem dX0_twiceArea_56 : decode cX0_twiceArea 56 = .ok (.lreturn, 1) := by decide +kernel
theorem dX0_roundsOf_0 : decode cX0_roundsOf 0 = .ok (.iconst 0, 1) := by decide +kernel
theorem dX0_roundsOf_1 : decode cX0_roundsOf 1 = .ok (.istore_n 2, 1) := by decide +kernel
theorem dX0_roundsOf_2 : decode cX0_roundsOf 2 = .ok (.iconst 0, 1) := by decide +kernel
theorem dX0_roundsOf_3 : decode cX0_roundsOf 3 = .ok (.istore_n 3, 1) := by decide +kernel
theorem dX0_roundsOf_4 : decode cX0_roundsOf 4 = .ok (.iload_n 3, 1) := by decide +kernel
theorem dX0_roundsOf_5 : decode cX0_roundsOf 5 = .ok (.aload_n 0, 1) := by decide +kernel
theorem dX0_roundsOf_6 : decode cX0_roundsOf 6 = .ok (.getfield 12, 3) := by decide +kernel
theorem dX0_roundsOf_9 : decode cX0_roundsOf 9 = .ok (.getfield 43, 3) := by decide +kernel
theorem dX0_roundsOf_12 : decode cX0_roundsOf 12 = .ok (.if_icmp .ge 30, 3) := by decide +kernel
theorem dX0_roundsOf_15 : decode cX0_roundsOf 15 = .ok (.aload_n 0, 1) := by decide +kernel
theorem dX0_roundsOf_16 : decode cX0_roundsOf 16 = .ok (.getfield 30, 3) := by decide +kernel
theorem dX0_roundsOf_19 : decode cX0_roundsOf 19 = .ok (.aload_n 0, 1) := by decide +kernel
theorem dX0_roundsOf_20 : decode cX0_roundsOf 20 = .ok (.getfield 12, 3) := by decide +kernel
theorem dX0_roundsOf_23 : decode cX0_roundsOf 23 = .ok (.getfield 44, 3) := by decide +kernel
theorem dX0_roundsOf_26 : decode cX0_roundsOf 26 = .ok (.iload_n 3, 1) := by decide +kernel
theorem dX0_roundsOf_27 : decode cX0_roundsOf 27 = .ok (.iaload, 1) := by decide +kernel
theorem dX0_roundsOf_28 : decode cX0_roundsOf 28 = .ok (.iaload, 1) := by decide +kernel
theorem dX0_roundsOf_29 : decode cX0_roundsOf 29 = .ok (.iload_n 1, 1) := by decide +kernel
theorem dX0_roundsOf_30 : decode cX0_roundsOf 30 = .ok (.if_icmp .ne 6, 3) := by decide +kernel
theorem dX0_roundsOf_33 : decode cX0_roundsOf 33 = .ok (.iinc 2 1, 3) := by decide +kernel
theorem dX0_roundsOf_36 : decode cX0_roundsOf 36 = .ok (.iinc 3 1, 3) := by decide +kernel
theorem dX0_roundsOf_39 : decode cX0_roundsOf 39 = .ok (.goto (-35), 3) := by decide +kernel
theorem dX0_roundsOf_42 : decode cX0_roundsOf 42 = .ok (.iload_n 2, 1) := by decide +kernel
theorem dX0_roundsOf_43 : decode cX0_roundsOf 43 = .ok (.ireturn, 1) := by decide +kernel
theorem dX0_halvesOf_0 : decode cX0_halvesOf 0 = .ok (.iconst 0, 1) := by decide +kernel
theorem dX0_halvesOf_1 : decode cX0_halvesOf 1 = .ok (.istore_n 2, 1) := by decide +kernel
theorem dX0_halvesOf_2 : decode cX0_halvesOf 2 = .ok (.iconst 0, 1) := by decide +kernel
theorem dX0_halvesOf_3 : decode cX0_halvesOf 3 = .ok (.istore_n 3, 1) := by decide +kernel
theorem dX0_halvesOf_4 : decode cX0_halvesOf 4 = .ok (.iload_n 3, 1) := by decide +kernel
theorem dX0_halvesOf_5 : decode cX0_halvesOf 5 = .ok (.bipush 120, 2) := by decide +kernel
theorem dX0_halvesOf_7 : decode cX0_halvesOf 7 = .ok (.if_icmp .ge 36, 3) := by decide +kernel
theorem dX0_halvesOf_10 : decode cX0_halvesOf 10 = .ok (.aload_n 0, 1) := by decide +kernel
theorem dX0_halvesOf_11 : decode cX0_halvesOf 11 = .ok (.getfield 22, 3) := by decide +kernel
theorem dX0_halvesOf_14 : decode cX0_halvesOf 14 = .ok (.getfield 73, 3) := by decide +kernel
theorem dX0_halvesOf_17 : decode cX0_halvesOf 17 = .ok (.iload_n 3, 1) := by decide +kernel
theorem dX0_halvesOf_18 : decode cX0_halvesOf 18 = .ok (.iconst 1, 1) := by decide +kernel
theorem dX0_halvesOf_19 : decode cX0_halvesOf 19 = .ok (.ishr, 1) := by decide +kernel
theorem dX0_halvesOf_20 : decode cX0_halvesOf 20 = .ok (.baload, 1) := by decide +kernel
theorem dX0_halvesOf_21 : decode cX0_halvesOf 21 = .ok (.ifCond .eq 16, 3) := by decide +kernel
theorem dX0_halvesOf_24 : decode cX0_halvesOf 24 = .ok (.aload_n 0, 1) := by decide +kernel
theorem dX0_halvesOf_25 : decode cX0_halvesOf 25 = .ok (.getfield 30, 3) := by decide +kernel
theorem dX0_halvesOf_28 : decode cX0_halvesOf 28 = .ok (.iload_n 3, 1) := by decide +kernel
theorem dX0_halvesOf_29 : decode cX0_halvesOf 29 = .ok (.iaload, 1) := by decide +kernel
theorem dX0_halvesOf_30 : decode cX0_halvesOf 30 = .ok (.iload_n 1, 1) := by decide +kernel
theorem dX0_halvesOf_31 : decode cX0_halvesOf 31 = .ok (.if_icmp .ne 6, 3) := by decide +kernel
theorem dX0_halvesOf_34 : decode cX0_halvesOf 34 = .ok (.iinc 2 1, 3) := by decide +kernel
theorem dX0_halvesOf_37 : decode cX0_halvesOf 37 = .ok (.iinc 3 1, 3) := by decide +kernel
theorem dX0_halvesOf_40 : decode cX0_halvesOf 40 = .ok (.goto (-36), 3) := by decide +kernel
theorem dX0_halvesOf_43 : decode cX0_halvesOf 43 = .ok (.iload_n 2, 1) := by decide +kernel
theorem dX0_halvesOf_44 : decode cX0_halvesOf 44 = .ok (.ireturn, 1) := by decide +kernel
theorem dX0_leastHalfOf_0 : decode cX0_leastHalfOf 0 = .ok (.iconst 0, 1) := by decide +kernel
theorem dX0_leastHalfOf_1 : decode cX0_leastHalfOf 1 = .ok (.istore_n 2, 1) := by decide +kernel
theorem dX0_leastHalfOf_2 : decode cX0_leastHalfOf 2 = .ok (.iload_n 2, 1) := by decide +kernel
theorem dX0_leastHalfOf_3 : decode cX0_leastHalfOf 3 = .ok (.bipush 120, 2) := by decide +kernel
theorem dX0_leastHalfOf_5 : decode cX0_leastHalfOf 5 = .ok (.if_icmp .ge 35, 3) := by decide +kernel
theorem dX0_leastHalfOf_8 : decode cX0_leastHalfOf 8 = .ok (.aload_n 0, 1) := by decide +kernel
theorem dX0_leastHalfOf_9 : decode cX0_leastHalfOf 9 = .ok (.getfield 22, 3) := by decide +kernel
theorem dX0_leastHalfOf_12 : decode cX0_leastHalfOf 12 = .ok (.getfield 73, 3) := by decide +kernel
theorem dX0_leastHalfOf_15 : decode cX0_leastHalfOf 15 = .ok (.iload_n 2, 1) := by decide +kernel
theorem dX0_leastHalfOf_16 : decode cX0_leastHalfOf 16 = .ok (.iconst 1, 1) := by decide +kernel
theorem dX0_leastHalfOf_17 : decode cX0_leastHalfOf 17 = .ok (.ishr, 1) := by decide +kernel
theorem dX0_leastHalfOf_18 : decode cX0_leastHalfOf 18 = .ok (.baload, 1) := by decide +kernel
theorem dX0_leastHalfOf_19 : decode cX0_leastHalfOf 19 = .ok (.ifCond .eq 15, 3) := by decide +kernel
theorem dX0_leastHalfOf_22 : decode cX0_leastHalfOf 22 = .ok (.aload_n 0, 1) := by decide +kernel
theorem dX0_leastHalfOf_23 : decode cX0_leastHalfOf 23 = .ok (.getfield 30, 3) := by decide +kernel
theorem dX0_leastHalfOf_26 : decode cX0_leastHalfOf 26 = .ok (.iload_n 2, 1) := by decide +kernel
theorem dX0_leastHalfOf_27 : decode cX0_leastHalfOf 27 = .ok (.iaload, 1) := by decide +kernel
theorem dX0_leastHalfOf_28 : decode cX0_leastHalfOf 28 = .ok (.iload_n 1, 1) := by decide +kernel
theorem dX0_leastHalfOf_29 : decode cX0_leastHalfOf 29 = .ok (.if_icmp .ne 5, 3) := by decide +kernel
theorem dX0_leastHalfOf_32 : decode cX0_leastHalfOf 32 = .ok (.iload_n 2, 1) := by decide +kernel
theorem dX0_leastHalfOf_33 : decode cX0_leastHalfOf 33 = .ok (.ireturn, 1) := by decide +kernel
theorem dX0_leastHalfOf_34 : decode cX0_leastHalfOf 34 = .ok (.iinc 2 1, 3) := by decide +kernel
theorem dX0_leastHalfOf_37 : decode cX0_leastHalfOf 37 = .ok (.goto (-35), 3) := by decide +kernel
theorem dX0_leastHalfOf_40 : decode cX0_leastHalfOf 40 = .ok (.iconst (-1), 1) := by decide +kernel
theorem dX0_leastHalfOf_41 : decode cX0_leastHalfOf 41 = .ok (.ireturn, 1) := by decide +kernel
theorem dX0_piecesIn_0 : decode cX0_piecesIn 0 = .ok (.iconst 0, 1) := by decide +kernel
theorem dX0_piecesIn_1 : decode cX0_piecesIn 1 = .ok (.istore_n 2, 1) := by decide +kernel
theorem dX0_piecesIn_2 : decode cX0_piecesIn 2 = .ok (.iconst 0, 1) := by decide +kernel
theorem dX0_piecesIn_3 : decode cX0_piecesIn 3 = .ok (.istore_n 3, 1) := by decide +kernel
theorem dX0_piecesIn_4 : decode cX0_piecesIn 4 = .ok (.iload_n 3, 1) := by decide +kernel
theorem dX0_piecesIn_5 : decode cX0_piecesIn 5 = .ok (.aload_n 0, 1) := by decide +kernel
theorem dX0_piecesIn_6 : decode cX0_piecesIn 6 = .ok (.getfield 12, 3) := by decide +kernel
theorem dX0_piecesIn_9 : decode cX0_piecesIn 9 = .ok (.getfield 83, 3) := by decide +kernel
theorem dX0_piecesIn_12 : decode cX0_piecesIn 12 = .ok (.if_icmp .ge 22, 3) := by decide +kernel
theorem dX0_piecesIn_15 : decode cX0_piecesIn 15 = .ok (.aload_n 0, 1) := by decide +kernel
theorem dX0_piecesIn_16 : decode cX0_piecesIn 16 = .ok (.getfield 33, 3) := by decide +kernel
theorem dX0_piecesIn_19 : decode cX0_piecesIn 19 = .ok (.iload_n 3, 1) := by decide +kernel
theorem dX0_piecesIn_20 : decode cX0_piecesIn 20 = .ok (.iaload, 1) := by decide +kernel
theorem dX0_piecesIn_21 : decode cX0_piecesIn 21 = .ok (.iload_n 1, 1) := by decide +kernel
theorem dX0_piecesIn_22 : decode cX0_piecesIn 22 = .ok (.if_icmp .ne 6, 3) := by decide +kernel
theorem dX0_piecesIn_25 : decode cX0_piecesIn 25 = .ok (.iinc 2 1, 3) := by decide +kernel
theorem dX0_piecesIn_28 : decode cX0_piecesIn 28 = .ok (.iinc 3 1, 3) := by decide +kernel
theorem dX0_piecesIn_31 : decode cX0_piecesIn 31 = .ok (.goto (-27), 3) := by decide +kernel
theorem dX0_piecesIn_34 : decode cX0_piecesIn 34 = .ok (.iload_n 2, 1) := by decide +kernel
theorem dX0_piecesIn_35 : decode cX0_piecesIn 35 = .ok (.ireturn, 1) := by decide +kernel
set_option maxRecDepth 20000 in
theorem ggX0_crossings_J7_fill_53178 : GoodIn wsX0_crossings wsJ7_fill_53178 := goodIn_r _ [9] (by decide +kernel) (by decide +kernel)
set_option maxRecDepth 20000 in
theorem gX0_crossings_J7_fill_53178 : GoodIn wsX0_crossings (va_wsS RX0 67 yJ7_fill_53178 wsJ7_fill_53178) := goodIn_app (goodIn_of _ (by decide +kernel)) ggX0_crossings_J7_fill_53178
set_option maxRecDepth 20000 in
theorem ggX0_crossings_X0_cross : GoodIn wsX0_crossings wsX0_cross := goodIn_r _ [14, 1, 15, 16, 17, 18, 19, 20, 21, 22] (by decide +kernel) (by decide +kernel)
set_option maxRecDepth 20000 in
theorem gX0_crossings_X0_cross : GoodIn wsX0_crossings (wsV RX0 86 RX0 yX0_cross wsX0_cross) := goodIn_app (goodIn_of _ (by decide +kernel)) ggX0_crossings_X0_cross
theorem dX0_crossings_0 : decode cX0_crossings 0 = .ok (.aload_n 0, 1) := by decide +kernel
theorem dX0_crossings_1 : decode cX0_crossings 1 = .ok (.getfield 36, 3) := by decide +kernel
theorem dX0_crossings_4 : decode cX0_crossings 4 = .ok (.iconst (-1), 1) := by decide +kernel
theorem dX0_crossings_5 : decode cX0_crossings 5 = .ok (.invokestatic 67, 3) := by decide +kernel
theorem dX0_crossings_8 : decode cX0_crossings 8 = .ok (.aload_n 0, 1) := by decide +kernel
theorem dX0_crossings_9 : decode cX0_crossings 9 = .ok (.getfield 36, 3) := by decide +kernel
theorem dX0_crossings_12 : decode cX0_crossings 12 = .ok (.iload_n 1, 1) := by decide +kernel
theorem dX0_crossings_13 : decode cX0_crossings 13 = .ok (.iconst 0, 1) := by decide +kernel
theorem dX0_crossings_14 : decode cX0_crossings 14 = .ok (.iastore, 1) := by decide +kernel
theorem dX0_crossings_15 : decode cX0_crossings 15 = .ok (.iconst 0, 1) := by decide +kernel
theorem dX0_crossings_16 : decode cX0_crossings 16 = .ok (.istore_n 3, 1) := by decide +kernel
theorem dX0_crossings_17 : decode cX0_crossings 17 = .ok (.iload_n 3, 1) := by decide +kernel
theorem dX0_crossings_18 : decode cX0_crossings 18 = .ok (.aload_n 0, 1) := by decide +kernel
theorem dX0_crossings_19 : decode cX0_crossings 19 = .ok (.getfield 39, 3) := by decide +kernel
theorem dX0_crossings_22 : decode cX0_crossings 22 = .ok (.if_icmp .ge 98, 3) := by decide +kernel
theorem dX0_crossings_25 : decode cX0_crossings 25 = .ok (.aload_n 0, 1) := by decide +kernel
theorem dX0_crossings_26 : decode cX0_crossings 26 = .ok (.getfield 36, 3) := by decide +kernel
theorem dX0_crossings_29 : decode cX0_crossings 29 = .ok (.iload_n 2, 1) := by decide +kernel
theorem dX0_crossings_30 : decode cX0_crossings 30 = .ok (.iaload, 1) := by decide +kernel
theorem dX0_crossings_31 : decode cX0_crossings 31 = .ok (.iconst (-1), 1) := by decide +kernel
theorem dX0_crossings_32 : decode cX0_crossings 32 = .ok (.if_icmp .ne 88, 3) := by decide +kernel
theorem dX0_crossings_35 : decode cX0_crossings 35 = .ok (.iconst 0, 1) := by decide +kernel
theorem dX0_crossings_36 : decode cX0_crossings 36 = .ok (.istore 4, 2) := by decide +kernel
theorem dX0_crossings_38 : decode cX0_crossings 38 = .ok (.iload 4, 2) := by decide +kernel
theorem dX0_crossings_40 : decode cX0_crossings 40 = .ok (.bipush 60, 2) := by decide +kernel
theorem dX0_crossings_42 : decode cX0_crossings 42 = .ok (.if_icmp .ge 72, 3) := by decide +kernel
theorem dX0_crossings_45 : decode cX0_crossings 45 = .ok (.aload_n 0, 1) := by decide +kernel
theorem dX0_crossings_46 : decode cX0_crossings 46 = .ok (.getfield 22, 3) := by decide +kernel
theorem dX0_crossings_49 : decode cX0_crossings 49 = .ok (.getfield 73, 3) := by decide +kernel
theorem dX0_crossings_52 : decode cX0_crossings 52 = .ok (.iload 4, 2) := by decide +kernel
theorem dX0_crossings_54 : decode cX0_crossings 54 = .ok (.baload, 1) := by decide +kernel
theorem dX0_crossings_55 : decode cX0_crossings 55 = .ok (.ifCond .eq 53, 3) := by decide +kernel
theorem dX0_crossings_58 : decode cX0_crossings 58 = .ok (.aload_n 0, 1) := by decide +kernel
theorem dX0_crossings_59 : decode cX0_crossings 59 = .ok (.aload_n 0, 1) := by decide +kernel
theorem dX0_crossings_60 : decode cX0_crossings 60 = .ok (.getfield 30, 3) := by decide +kernel
theorem dX0_crossings_63 : decode cX0_crossings 63 = .ok (.iconst 2, 1) := by decide +kernel
theorem dX0_crossings_64 : decode cX0_crossings 64 = .ok (.iload 4, 2) := by decide +kernel
theorem dX0_crossings_66 : decode cX0_crossings 66 = .ok (.imul, 1) := by decide +kernel
theorem dX0_crossings_67 : decode cX0_crossings 67 = .ok (.iaload, 1) := by decide +kernel
theorem dX0_crossings_68 : decode cX0_crossings 68 = .ok (.aload_n 0, 1) := by decide +kernel
theorem dX0_crossings_69 : decode cX0_crossings 69 = .ok (.getfield 30, 3) := by decide +kernel
theorem dX0_crossings_72 : decode cX0_crossings 72 = .ok (.iconst 2, 1) := by decide +kernel
theorem dX0_crossings_73 : decode cX0_crossings 73 = .ok (.iload 4, 2) := by decide +kernel
theorem dX0_crossings_75 : decode cX0_crossings 75 = .ok (.imul, 1) := by decide +kernel
theorem dX0_crossings_76 : decode cX0_crossings 76 = .ok (.iconst 1, 1) := by decide +kernel
theorem dX0_crossings_77 : decode cX0_crossings 77 = .ok (.iadd, 1) := by decide +kernel
theorem dX0_crossings_78 : decode cX0_crossings 78 = .ok (.iaload, 1) := by decide +kernel
theorem dX0_crossings_79 : decode cX0_crossings 79 = .ok (.iload_n 3, 1) := by decide +kernel
theorem dX0_crossings_80 : decode cX0_crossings 80 = .ok (.invokevirtual 86, 3) := by decide +kernel
theorem dX0_crossings_83 : decode cX0_crossings 83 = .ok (.aload_n 0, 1) := by decide +kernel
theorem dX0_crossings_84 : decode cX0_crossings 84 = .ok (.aload_n 0, 1) := by decide +kernel
theorem dX0_crossings_85 : decode cX0_crossings 85 = .ok (.getfield 30, 3) := by decide +kernel
theorem dX0_crossings_88 : decode cX0_crossings 88 = .ok (.iconst 2, 1) := by decide +kernel
theorem dX0_crossings_89 : decode cX0_crossings 89 = .ok (.iload 4, 2) := by decide +kernel
theorem dX0_crossings_91 : decode cX0_crossings 91 = .ok (.imul, 1) := by decide +kernel
theorem dX0_crossings_92 : decode cX0_crossings 92 = .ok (.iconst 1, 1) := by decide +kernel
theorem dX0_crossings_93 : decode cX0_crossings 93 = .ok (.iadd, 1) := by decide +kernel
theorem dX0_crossings_94 : decode cX0_crossings 94 = .ok (.iaload, 1) := by decide +kernel
theorem dX0_crossings_95 : decode cX0_crossings 95 = .ok (.aload_n 0, 1) := by decide +kernel
theorem dX0_crossings_96 : decode cX0_crossings 96 = .ok (.getfield 30, 3) := by decide +kernel
theorem dX0_crossings_99 : decode cX0_crossings 99 = .ok (.iconst 2, 1) := by decide +kernel
theorem dX0_crossings_100 : decode cX0_crossings 100 = .ok (.iload 4, 2) := by decide +kernel
theorem dX0_crossings_102 : decode cX0_crossings 102 = .ok (.imul, 1) := by decide +kernel
theorem dX0_crossings_103 : decode cX0_crossings 103 = .ok (.iaload, 1) := by decide +kernel
theorem dX0_crossings_104 : decode cX0_crossings 104 = .ok (.iload_n 3, 1) := by decide +kernel
theorem dX0_crossings_105 : decode cX0_crossings 105 = .ok (.invokevirtual 86, 3) := by decide +kernel
theorem dX0_crossings_108 : decode cX0_crossings 108 = .ok (.iinc 4 1, 3) := by decide +kernel
theorem dX0_crossings_111 : decode cX0_crossings 111 = .ok (.goto (-73), 3) := by decide +kernel
theorem dX0_crossings_114 : decode cX0_crossings 114 = .ok (.iinc 3 1, 3) := by decide +kernel
theorem dX0_crossings_117 : decode cX0_crossings 117 = .ok (.goto (-100), 3) := by decide +kernel
theorem dX0_crossings_120 : decode cX0_crossings 120 = .ok (.aload_n 0, 1) := by decide +kernel
theorem dX0_crossings_121 : decode cX0_crossings 121 = .ok (.getfield 36, 3) := by decide +kernel
theorem dX0_crossings_124 : decode cX0_crossings 124 = .ok (.iload_n 2, 1) := by decide +kernel
theorem dX0_crossings_125 : decode cX0_crossings 125 = .ok (.iaload, 1) := by decide +kernel
theorem dX0_crossings_126 : decode cX0_crossings 126 = .ok (.ireturn, 1) := by decide +kernel
theorem dX0_cross_0 : decode cX0_cross 0 = .ok (.aload_n 0, 1) := by decide +kernel
theorem dX0_cross_1 : decode cX0_cross 1 = .ok (.getfield 36, 3) := by decide +kernel
theorem dX0_cross_4 : decode cX0_cross 4 = .ok (.iload_n 1, 1) := by decide +kernel
theorem dX0_cross_5 : decode cX0_cross 5 = .ok (.iaload, 1) := by decide +kernel
theorem dX0_cross_6 : decode cX0_cross 6 = .ok (.iload_n 3, 1) := by decide +kernel
theorem dX0_cross_7 : decode cX0_cross 7 = .ok (.if_icmp .ne 22, 3) := by decide +kernel
theorem dX0_cross_10 : decode cX0_cross 10 = .ok (.aload_n 0, 1) := by decide +kernel
theorem dX0_cross_11 : decode cX0_cross 11 = .ok (.getfield 36, 3) := by decide +kernel
theorem dX0_cross_14 : decode cX0_cross 14 = .ok (.iload_n 2, 1) := by decide +kernel
theorem dX0_cross_15 : decode cX0_cross 15 = .ok (.iaload, 1) := by decide +kernel
theorem dX0_cross_16 : decode cX0_cross 16 = .ok (.iconst (-1), 1) := by decide +kernel
theorem dX0_cross_17 : decode cX0_cross 17 = .ok (.if_icmp .ne 12, 3) := by decide +kernel
theorem dX0_cross_20 : decode cX0_cross 20 = .ok (.aload_n 0, 1) := by decide +kernel
theorem dX0_cross_21 : decode cX0_cross 21 = .ok (.getfield 36, 3) := by decide +kernel
theorem dX0_cross_24 : decode cX0_cross 24 = .ok (.iload_n 2, 1) := by decide +kernel
theorem dX0_cross_25 : decode cX0_cross 25 = .ok (.iload_n 3, 1) := by decide +kernel
theorem dX0_cross_26 : decode cX0_cross 26 = .ok (.iconst 1, 1) := by decide +kernel
theorem dX0_cross_27 : decode cX0_cross 27 = .ok (.iadd, 1) := by decide +kernel
theorem dX0_cross_28 : decode cX0_cross 28 = .ok (.iastore, 1) := by decide +kernel
theorem dX0_cross_29 : decode cX0_cross 29 = .ok (.return_, 1) := by decide +kernel
set_option maxRecDepth 20000 in
theorem ggX1_init_X2_init : GoodIn wsX1_init wsX2_init := goodIn_r _ [21, 22, 2, 3, 8, 23, 24, 25, 26, 27, 28, 29, 30, 31] (by decide +kernel) (by decide +kernel)
set_option maxRecDepth 20000 in
theorem gX1_init_X2_init_n11 : GoodIn wsX1_init (wsX2_init) := ggX1_init_X2_init
theorem dX1_init_0 : decode cX1_init 0 = .ok (.aload_n 0, 1) := by decide +kernel
theorem dX1_init_1 : decode cX1_init 1 = .ok (.invokespecial 3, 3) := by decide +kernel
theorem dX1_init_4 : decode cX1_init 4 = .ok (.aload_n 0, 1) := by decide +kernel
theorem dX1_init_5 : decode cX1_init 5 = .ok (.new 9, 3) := by decide +kernel
theorem dX1_init_8 : decode cX1_init 8 = .ok (.dup, 1) := by decide +kernel
theorem dX1_init_9 : decode cX1_init 9 = .ok (.invokespecial 11, 3) := by decide +kernel
theorem dX1_init_12 : decode cX1_init 12 = .ok (.putfield 12, 3) := by decide +kernel
theorem dX1_init_15 : decode cX1_init 15 = .ok (.aload_n 0, 1) := by decide +kernel
theorem dX1_init_16 : decode cX1_init 16 = .ok (.bipush 120, 2) := by decide +kernel
theorem dX1_init_18 : decode cX1_init 18 = .ok (.newarray .int, 2) := by decide +kernel
theorem dX1_init_20 : decode cX1_init 20 = .ok (.putfield 18, 3) := by decide +kernel
theorem dX1_init_23 : decode cX1_init 23 = .ok (.aload_n 0, 1) := by decide +kernel
theorem dX1_init_24 : decode cX1_init 24 = .ok (.bipush 120, 2) := by decide +kernel
theorem dX1_init_26 : decode cX1_init 26 = .ok (.newarray .int, 2) := by decide +kernel
theorem dX1_init_28 : decode cX1_init 28 = .ok (.putfield 22, 3) := by decide +kernel
theorem dX1_init_31 : decode cX1_init 31 = .ok (.aload_n 0, 1) := by decide +kernel
theorem dX1_init_32 : decode cX1_init 32 = .ok (.bipush 60, 2) := by decide +kernel
theorem dX1_init_34 : decode cX1_init 34 = .ok (.newarray .int, 2) := by decide +kernel
theorem dX1_init_36 : decode cX1_init 36 = .ok (.putfield 25, 3) := by decide +kernel
theorem dX1_init_39 : decode cX1_init 39 = .ok (.aload_n 0, 1) := by decide +kernel
theorem dX1_init_40 : decode cX1_init 40 = .ok (.bipush 60, 2) := by decide +kernel
theorem dX1_init_42 : decode cX1_init 42 = .ok (.newarray .int, 2) := by decide +kernel
theorem dX1_init_44 : decode cX1_init 44 = .ok (.putfield 28, 3) := by decide +kernel
theorem dX1_init_47 : decode cX1_init 47 = .ok (.aload_n 0, 1) := by decide +kernel
theorem dX1_init_48 : decode cX1_init 48 = .ok (.iconst 0, 1) := by decide +kernel
theorem dX1_init_49 : decode cX1_init 49 = .ok (.putfield 31, 3) := by decide +kernel
theorem dX1_init_52 : decode cX1_init 52 = .ok (.aload_n 0, 1) := by decide +kernel
theorem dX1_init_53 : decode cX1_init 53 = .ok (.bipush 120, 2) := by decide +kernel
theorem dX1_init_55 : decode cX1_init 55 = .ok (.newarray .int, 2) := by decide +kernel
theorem dX1_init_57 : decode cX1_init 57 = .ok (.putfield 35, 3) := by decide +kernel
theorem dX1_init_60 : decode cX1_init 60 = .ok (.aload_n 0, 1) := by decide +kernel
theorem dX1_init_61 : decode cX1_init 61 = .ok (.bipush 120, 2) := by decide +kernel
theorem dX1_init_63 : decode cX1_init 63 = .ok (.newarray .int, 2) := by decide +kernel
theorem dX1_init_65 : decode cX1_init 65 = .ok (.putfield 38, 3) := by decide +kernel
theorem dX1_init_68 : decode cX1_init 68 = .ok (.aload_n 0, 1) := by decide +kernel
theorem dX1_init_69 : decode cX1_init 69 = .ok (.bipush 120, 2) := by decide +kernel
theorem dX1_init_71 : decode cX1_init 71 = .ok (.newarray .long, 2) := by decide +kernel
theorem dX1_init_73 : decode cX1_init 73 = .ok (.putfield 41, 3) := by decide +kernel
theorem dX1_init_76 : decode cX1_init 76 = .ok (.aload_n 0, 1) := by decide +kernel
theorem dX1_init_77 : decode cX1_init 77 = .ok (.bipush 120, 2) := by decide +kernel
theorem dX1_init_79 : decode cX1_init 79 = .ok (.newarray .int, 2) := by decide +kernel
theorem dX1_init_81 : decode cX1_init 81 = .ok (.putfield 45, 3) := by decide +kernel
theorem dX1_init_84 : decode cX1_init 84 = .ok (.aload_n 0, 1) := by decide +kernel
theorem dX1_init_85 : decode cX1_init 85 = .ok (.iconst 0, 1) := by decide +kernel
theorem dX1_init_86 : decode cX1_init 86 = .ok (.putfield 48, 3) := by decide +kernel
theorem dX1_init_89 : decode cX1_init 89 = .ok (.return_, 1) := by decide +kernel
set_option maxRecDepth 20000 in
theorem ggX1_trace_X1_findCorners : GoodIn wsX1_trace wsX1_findCorners := goodIn_r _ [8, 9, 2, 3, 10, 11, 12, 13, 14, 15, 16, 17, 18, 19, 77, 78, 79, 80, 81, 82, 83, 84, 85, 86, 87, 88, 89, 90, 91] (by decide +kernel) (by decide +kernel)
set_option maxRecDepth 20000 in
theorem gX1_trace_X1_findCorners : GoodIn wsX1_trace (wsV RX1 51 RX1 yX1_findCorners wsX1_findCorners) := goodIn_app (goodIn_of _ (by decide +kernel)) ggX1_trace_X1_findCorners
set_option maxRecDepth 20000 in
theorem ggX1_trace_X1_firstClockwise : GoodIn wsX1_trace wsX1_firstClockwise := goodIn_r _ [23, 9, 2, 24, 25, 26, 15, 27, 28, 29, 30, 31, 18, 19, 32, 33, 34, 77, 78, 79, 80, 81, 82, 83, 84, 85, 86, 87, 88, 89, 90, 91] (by decide +kernel) (by decide +kernel)
set_option maxRecDepth 20000 in
theorem gX1_trace_X1_firstClockwise : GoodIn wsX1_trace (wsV RX1 58 RX1 yX1_firstClockwise wsX1_firstClockwise) := goodIn_app (goodIn_of _ (by decide +kernel)) ggX1_trace_X1_firstClockwise
set_option maxRecDepth 20000 in
theorem ggX1_trace_X1_joinPieces : GoodIn wsX1_trace wsX1_joinPieces := goodIn_r _ [38, 39, 2, 3, 9, 40, 41, 42, 7, 43, 44, 45, 46, 47, 48, 49, 50, 77, 78, 79, 80, 81, 82, 83, 84, 85, 86, 87, 88, 89, 90, 91] (by decide +kernel) (by decide +kernel)
set_option maxRecDepth 20000 in
theorem gX1_trace_X1_joinPieces : GoodIn wsX1_trace (wsV RX1 62 RX1 yX1_joinPieces wsX1_joinPieces) := goodIn_app (goodIn_of _ (by decide +kernel)) ggX1_trace_X1_joinPieces
set_option maxRecDepth 20000 in
theorem ggX1_trace_X1_numberPieces : GoodIn wsX1_trace wsX1_numberPieces := goodIn_r _ [54, 55, 2, 3, 39, 56, 77, 78, 79, 80, 81, 82, 83, 84, 85, 86, 87, 88, 89, 90, 91] (by decide +kernel) (by decide +kernel)
set_option maxRecDepth 20000 in
theorem gX1_trace_X1_numberPieces : GoodIn wsX1_trace (wsV RX1 65 RX1 yX1_numberPieces wsX1_numberPieces) := goodIn_app (goodIn_of _ (by decide +kernel)) ggX1_trace_X1_numberPieces
set_option maxRecDepth 20000 in
theorem ggX1_trace_X1_walkRounds : GoodIn wsX1_trace wsX1_walkRounds := goodIn_r _ [60, 61, 62, 2, 3, 63, 64, 65, 66, 67, 68, 69, 7, 70, 71, 72, 1, 73, 74, 75, 15, 76, 18, 19, 77, 78, 79, 80, 81, 82, 83, 84, 85, 86, 87, 88, 89, 90, 91] (by decide +kernel) (by decide +kernel)
set_option maxRecDepth 20000 in
theorem gX1_trace_X1_walkRounds : GoodIn wsX1_trace (wsV RX1 68 RX1 yX1_walkRounds wsX1_walkRounds) := goodIn_app (goodIn_of _ (by decide +kernel)) ggX1_trace_X1_walkRounds
theorem dX1_trace_0 : decode cX1_trace 0 = .ok (.aload_n 0, 1) := by decide +kernel
theorem dX1_trace_1 : decode cX1_trace 1 = .ok (.invokevirtual 51, 3) := by decide +kernel
theorem dX1_trace_4 : decode cX1_trace 4 = .ok (.iconst 0, 1) := by decide +kernel
theorem dX1_trace_5 : decode cX1_trace 5 = .ok (.istore_n 1, 1) := by decide +kernel
theorem dX1_trace_6 : decode cX1_trace 6 = .ok (.iload_n 1, 1) := by decide +kernel
theorem dX1_trace_7 : decode cX1_trace 7 = .ok (.bipush 120, 2) := by decide +kernel
theorem dX1_trace_9 : decode cX1_trace 9 = .ok (.if_icmp .ge 40, 3) := by decide +kernel
theorem dX1_trace_12 : decode cX1_trace 12 = .ok (.aload_n 0, 1) := by decide +kernel
theorem dX1_trace_13 : decode cX1_trace 13 = .ok (.getfield 22, 3) := by decide +kernel
theorem dX1_trace_16 : decode cX1_trace 16 = .ok (.iload_n 1, 1) := by decide +kernel
theorem dX1_trace_17 : decode cX1_trace 17 = .ok (.aload_n 0, 1) := by decide +kernel
theorem dX1_trace_18 : decode cX1_trace 18 = .ok (.getfield 12, 3) := by decide +kernel
theorem dX1_trace_21 : decode cX1_trace 21 = .ok (.getfield 54, 3) := by decide +kernel
theorem dX1_trace_24 : decode cX1_trace 24 = .ok (.iload_n 1, 1) := by decide +kernel
theorem dX1_trace_25 : decode cX1_trace 25 = .ok (.iconst 1, 1) := by decide +kernel
theorem dX1_trace_26 : decode cX1_trace 26 = .ok (.ishr, 1) := by decide +kernel
theorem dX1_trace_27 : decode cX1_trace 27 = .ok (.baload, 1) := by decide +kernel
theorem dX1_trace_28 : decode cX1_trace 28 = .ok (.ifCond .eq 13, 3) := by decide +kernel
theorem dX1_trace_31 : decode cX1_trace 31 = .ok (.aload_n 0, 1) := by decide +kernel
theorem dX1_trace_32 : decode cX1_trace 32 = .ok (.iload_n 1, 1) := by decide +kernel
theorem dX1_trace_33 : decode cX1_trace 33 = .ok (.iconst 1, 1) := by decide +kernel
theorem dX1_trace_34 : decode cX1_trace 34 = .ok (.ixor, 1) := by decide +kernel
theorem dX1_trace_35 : decode cX1_trace 35 = .ok (.invokevirtual 58, 3) := by decide +kernel
theorem dX1_trace_38 : decode cX1_trace 38 = .ok (.goto 4, 3) := by decide +kernel
theorem dX1_trace_41 : decode cX1_trace 41 = .ok (.iconst (-1), 1) := by decide +kernel
theorem dX1_trace_42 : decode cX1_trace 42 = .ok (.iastore, 1) := by decide +kernel
theorem dX1_trace_43 : decode cX1_trace 43 = .ok (.iinc 1 1, 3) := by decide +kernel
theorem dX1_trace_46 : decode cX1_trace 46 = .ok (.goto (-40), 3) := by decide +kernel
theorem dX1_trace_49 : decode cX1_trace 49 = .ok (.aload_n 0, 1) := by decide +kernel
theorem dX1_trace_50 : decode cX1_trace 50 = .ok (.invokevirtual 62, 3) := by decide +kernel
theorem dX1_trace_53 : decode cX1_trace 53 = .ok (.aload_n 0, 1) := by decide +kernel
theorem dX1_trace_54 : decode cX1_trace 54 = .ok (.invokevirtual 65, 3) := by decide +kernel
theorem dX1_trace_57 : decode cX1_trace 57 = .ok (.aload_n 0, 1) := by decide +kernel
theorem dX1_trace_58 : decode cX1_trace 58 = .ok (.invokevirtual 68, 3) := by decide +kernel
theorem dX1_trace_61 : decode cX1_trace 61 = .ok (.return_, 1) := by decide +kernel
set_option maxRecDepth 20000 in
theorem ggX1_findCorners_X2_leastHalfAt : GoodIn wsX1_findCorners wsX2_leastHalfAt := goodIn_r _ [10, 11, 12, 13, 25, 26, 27, 28] (by decide +kernel) (by decide +kernel)
set_option maxRecDepth 20000 in
theorem gX1_findCorners_X2_leastHalfAt : GoodIn wsX1_findCorners (wsV RX1 77 RX2 yX2_leastHalfAt wsX2_leastHalfAt) := goodIn_app (goodIn_of _ (by decide +kernel)) ggX1_findCorners_X2_leastHalfAt
theorem dX1_findCorners_0 : decode cX1_findCorners 0 = .ok (.iconst 0, 1) := by decide +kernel
theorem dX1_findCorners_1 : decode cX1_findCorners 1 = .ok (.istore_n 1, 1) := by decide +kernel
theorem dX1_findCorners_2 : decode cX1_findCorners 2 = .ok (.iload_n 1, 1) := by decide +kernel
theorem dX1_findCorners_3 : decode cX1_findCorners 3 = .ok (.bipush 120, 2) := by decide +kernel
theorem dX1_findCorners_5 : decode cX1_findCorners 5 = .ok (.if_icmp .ge 58, 3) := by decide +kernel
theorem dX1_findCorners_8 : decode cX1_findCorners 8 = .ok (.aload_n 0, 1) := by decide +kernel
theorem dX1_findCorners_9 : decode cX1_findCorners 9 = .ok (.getfield 18, 3) := by decide +kernel
theorem dX1_findCorners_12 : decode cX1_findCorners 12 = .ok (.iload_n 1, 1) := by decide +kernel
theorem dX1_findCorners_13 : decode cX1_findCorners 13 = .ok (.aload_n 0, 1) := by decide +kernel
theorem dX1_findCorners_14 : decode cX1_findCorners 14 = .ok (.getfield 12, 3) := by decide +kernel
theorem dX1_findCorners_17 : decode cX1_findCorners 17 = .ok (.getfield 54, 3) := by decide +kernel
theorem dX1_findCorners_20 : decode cX1_findCorners 20 = .ok (.iload_n 1, 1) := by decide +kernel
theorem dX1_findCorners_21 : decode cX1_findCorners 21 = .ok (.iconst 1, 1) := by decide +kernel
theorem dX1_findCorners_22 : decode cX1_findCorners 22 = .ok (.ishr, 1) := by decide +kernel
theorem dX1_findCorners_23 : decode cX1_findCorners 23 = .ok (.baload, 1) := by decide +kernel
theorem dX1_findCorners_24 : decode cX1_findCorners 24 = .ok (.ifCond .eq 31, 3) := by decide +kernel
theorem dX1_findCorners_27 : decode cX1_findCorners 27 = .ok (.aload_n 0, 1) := by decide +kernel
theorem dX1_findCorners_28 : decode cX1_findCorners 28 = .ok (.getfield 12, 3) := by decide +kernel
theorem dX1_findCorners_31 : decode cX1_findCorners 31 = .ok (.aload_n 0, 1) := by decide +kernel
theorem dX1_findCorners_32 : decode cX1_findCorners 32 = .ok (.getfield 12, 3) := by decide +kernel
theorem dX1_findCorners_35 : decode cX1_findCorners 35 = .ok (.getfield 71, 3) := by decide +kernel
theorem dX1_findCorners_38 : decode cX1_findCorners 38 = .ok (.iload_n 1, 1) := by decide +kernel
theorem dX1_findCorners_39 : decode cX1_findCorners 39 = .ok (.iaload, 1) := by decide +kernel
theorem dX1_findCorners_40 : decode cX1_findCorners 40 = .ok (.aload_n 0, 1) := by decide +kernel
theorem dX1_findCorners_41 : decode cX1_findCorners 41 = .ok (.getfield 12, 3) := by decide +kernel
theorem dX1_findCorners_44 : decode cX1_findCorners 44 = .ok (.getfield 74, 3) := by decide +kernel
theorem dX1_findCorners_47 : decode cX1_findCorners 47 = .ok (.iload_n 1, 1) := by decide +kernel
theorem dX1_findCorners_48 : decode cX1_findCorners 48 = .ok (.iaload, 1) := by decide +kernel
theorem dX1_findCorners_49 : decode cX1_findCorners 49 = .ok (.invokevirtual 77, 3) := by decide +kernel
theorem dX1_findCorners_52 : decode cX1_findCorners 52 = .ok (.goto 4, 3) := by decide +kernel
theorem dX1_findCorners_55 : decode cX1_findCorners 55 = .ok (.iconst (-1), 1) := by decide +kernel
theorem dX1_findCorners_56 : decode cX1_findCorners 56 = .ok (.iastore, 1) := by decide +kernel
theorem dX1_findCorners_57 : decode cX1_findCorners 57 = .ok (.iinc 1 1, 3) := by decide +kernel
theorem dX1_findCorners_60 : decode cX1_findCorners 60 = .ok (.goto (-58), 3) := by decide +kernel
theorem dX1_findCorners_63 : decode cX1_findCorners 63 = .ok (.return_, 1) := by decide +kernel
theorem dX1_corners_0 : decode cX1_corners 0 = .ok (.iconst 0, 1) := by decide +kernel
theorem dX1_corners_1 : decode cX1_corners 1 = .ok (.istore_n 1, 1) := by decide +kernel
theorem dX1_corners_2 : decode cX1_corners 2 = .ok (.iconst 0, 1) := by decide +kernel
theorem dX1_corners_3 : decode cX1_corners 3 = .ok (.istore_n 2, 1) := by decide +kernel
theorem dX1_corners_4 : decode cX1_corners 4 = .ok (.iload_n 2, 1) := by decide +kernel
theorem dX1_corners_5 : decode cX1_corners 5 = .ok (.bipush 120, 2) := by decide +kernel
theorem dX1_corners_7 : decode cX1_corners 7 = .ok (.if_icmp .ge 36, 3) := by decide +kernel
theorem dX1_corners_10 : decode cX1_corners 10 = .ok (.aload_n 0, 1) := by decide +kernel
theorem dX1_corners_11 : decode cX1_corners 11 = .ok (.getfield 12, 3) := by decide +kernel
theorem dX1_corners_14 : decode cX1_corners 14 = .ok (.getfield 54, 3) := by decide +kernel
theorem dX1_corners_17 : decode cX1_corners 17 = .ok (.iload_n 2, 1) := by decide +kernel
theorem dX1_corners_18 : decode cX1_corners 18 = .ok (.iconst 1, 1) := by decide +kernel
theorem dX1_corners_19 : decode cX1_corners 19 = .ok (.ishr, 1) := by decide +kernel
theorem dX1_corners_20 : decode cX1_corners 20 = .ok (.baload, 1) := by decide +kernel
theorem dX1_corners_21 : decode cX1_corners 21 = .ok (.ifCond .eq 16, 3) := by decide +kernel
theorem dX1_corners_24 : decode cX1_corners 24 = .ok (.aload_n 0, 1) := by decide +kernel
theorem dX1_corners_25 : decode cX1_corners 25 = .ok (.getfield 18, 3) := by decide +kernel
theorem dX1_corners_28 : decode cX1_corners 28 = .ok (.iload_n 2, 1) := by decide +kernel
theorem dX1_corners_29 : decode cX1_corners 29 = .ok (.iaload, 1) := by decide +kernel
theorem dX1_corners_30 : decode cX1_corners 30 = .ok (.iload_n 2, 1) := by decide +kernel
theorem dX1_corners_31 : decode cX1_corners 31 = .ok (.if_icmp .ne 6, 3) := by decide +kernel
theorem dX1_corners_34 : decode cX1_corners 34 = .ok (.iinc 1 1, 3) := by decide +kernel
theorem dX1_corners_37 : decode cX1_corners 37 = .ok (.iinc 2 1, 3) := by decide +kernel
theorem dX1_corners_40 : decode cX1_corners 40 = .ok (.goto (-36), 3) := by decide +kernel
theorem dX1_corners_43 : decode cX1_corners 43 = .ok (.iload_n 1, 1) := by decide +kernel
theorem dX1_corners_44 : decode cX1_corners 44 = .ok (.ireturn, 1) := by decide +kernel
set_option maxRecDepth 20000 in
theorem ggX1_firstClockwise_X2_sooner : GoodIn wsX1_firstClockwise wsX2_sooner := goodIn_r _ [7, 8, 9, 10, 6, 11, 12, 13, 14, 15, 16, 28, 29, 30, 31] (by decide +kernel) (by decide +kernel)
set_option maxRecDepth 20000 in
theorem gX1_firstClockwise_X2_sooner : GoodIn wsX1_firstClockwise (wsV RX1 81 RX2 yX2_sooner wsX2_sooner) := goodIn_app (goodIn_of _ (by decide +kernel)) ggX1_firstClockwise_X2_sooner
theorem dX1_firstClockwise_0 : decode cX1_firstClockwise 0 = .ok (.iload_n 1, 1) := by decide +kernel
theorem dX1_firstClockwise_1 : decode cX1_firstClockwise 1 = .ok (.istore_n 2, 1) := by decide +kernel
theorem dX1_firstClockwise_2 : decode cX1_firstClockwise 2 = .ok (.iconst 0, 1) := by decide +kernel
theorem dX1_firstClockwise_3 : decode cX1_firstClockwise 3 = .ok (.istore_n 3, 1) := by decide +kernel
theorem dX1_firstClockwise_4 : decode cX1_firstClockwise 4 = .ok (.iload_n 3, 1) := by decide +kernel
theorem dX1_firstClockwise_5 : decode cX1_firstClockwise 5 = .ok (.bipush 120, 2) := by decide +kernel
theorem dX1_firstClockwise_7 : decode cX1_firstClockwise 7 = .ok (.if_icmp .ge 61, 3) := by decide +kernel
theorem dX1_firstClockwise_10 : decode cX1_firstClockwise 10 = .ok (.aload_n 0, 1) := by decide +kernel
theorem dX1_firstClockwise_11 : decode cX1_firstClockwise 11 = .ok (.getfield 18, 3) := by decide +kernel
theorem dX1_firstClockwise_14 : decode cX1_firstClockwise 14 = .ok (.iload_n 3, 1) := by decide +kernel
theorem dX1_firstClockwise_15 : decode cX1_firstClockwise 15 = .ok (.iaload, 1) := by decide +kernel
theorem dX1_firstClockwise_16 : decode cX1_firstClockwise 16 = .ok (.aload_n 0, 1) := by decide +kernel
theorem dX1_firstClockwise_17 : decode cX1_firstClockwise 17 = .ok (.getfield 18, 3) := by decide +kernel
theorem dX1_firstClockwise_20 : decode cX1_firstClockwise 20 = .ok (.iload_n 1, 1) := by decide +kernel
theorem dX1_firstClockwise_21 : decode cX1_firstClockwise 21 = .ok (.iaload, 1) := by decide +kernel
theorem dX1_firstClockwise_22 : decode cX1_firstClockwise 22 = .ok (.if_icmp .ne 12, 3) := by decide +kernel
theorem dX1_firstClockwise_25 : decode cX1_firstClockwise 25 = .ok (.iload_n 3, 1) := by decide +kernel
theorem dX1_firstClockwise_26 : decode cX1_firstClockwise 26 = .ok (.iload_n 1, 1) := by decide +kernel
theorem dX1_firstClockwise_27 : decode cX1_firstClockwise 27 = .ok (.if_icmp .eq 7, 3) := by decide +kernel
theorem dX1_firstClockwise_30 : decode cX1_firstClockwise 30 = .ok (.iconst 1, 1) := by decide +kernel
theorem dX1_firstClockwise_31 : decode cX1_firstClockwise 31 = .ok (.goto 4, 3) := by decide +kernel
theorem dX1_firstClockwise_34 : decode cX1_firstClockwise 34 = .ok (.iconst 0, 1) := by decide +kernel
theorem dX1_firstClockwise_35 : decode cX1_firstClockwise 35 = .ok (.istore 4, 2) := by decide +kernel
theorem dX1_firstClockwise_37 : decode cX1_firstClockwise 37 = .ok (.iload 4, 2) := by decide +kernel
theorem dX1_firstClockwise_39 : decode cX1_firstClockwise 39 = .ok (.ifCond .eq 23, 3) := by decide +kernel
theorem dX1_firstClockwise_42 : decode cX1_firstClockwise 42 = .ok (.iload_n 2, 1) := by decide +kernel
theorem dX1_firstClockwise_43 : decode cX1_firstClockwise 43 = .ok (.iload_n 1, 1) := by decide +kernel
theorem dX1_firstClockwise_44 : decode cX1_firstClockwise 44 = .ok (.if_icmp .eq 16, 3) := by decide +kernel
theorem dX1_firstClockwise_47 : decode cX1_firstClockwise 47 = .ok (.aload_n 0, 1) := by decide +kernel
theorem dX1_firstClockwise_48 : decode cX1_firstClockwise 48 = .ok (.getfield 12, 3) := by decide +kernel
theorem dX1_firstClockwise_51 : decode cX1_firstClockwise 51 = .ok (.iload_n 1, 1) := by decide +kernel
theorem dX1_firstClockwise_52 : decode cX1_firstClockwise 52 = .ok (.iload_n 3, 1) := by decide +kernel
theorem dX1_firstClockwise_53 : decode cX1_firstClockwise 53 = .ok (.iload_n 2, 1) := by decide +kernel
theorem dX1_firstClockwise_54 : decode cX1_firstClockwise 54 = .ok (.invokevirtual 81, 3) := by decide +kernel
theorem dX1_firstClockwise_57 : decode cX1_firstClockwise 57 = .ok (.ifCond .eq 5, 3) := by decide +kernel
theorem dX1_firstClockwise_60 : decode cX1_firstClockwise 60 = .ok (.iload_n 3, 1) := by decide +kernel
theorem dX1_firstClockwise_61 : decode cX1_firstClockwise 61 = .ok (.istore_n 2, 1) := by decide +kernel
theorem dX1_firstClockwise_62 : decode cX1_firstClockwise 62 = .ok (.iinc 3 1, 3) := by decide +kernel
theorem dX1_firstClockwise_65 : decode cX1_firstClockwise 65 = .ok (.goto (-61), 3) := by decide +kernel
theorem dX1_firstClockwise_68 : decode cX1_firstClockwise 68 = .ok (.iload_n 2, 1) := by decide +kernel
theorem dX1_firstClockwise_69 : decode cX1_firstClockwise 69 = .ok (.ireturn, 1) := by decide +kernel
set_option maxRecDepth 20000 in
theorem ggX1_joinPieces_X1_joinRoots : GoodIn wsX1_joinPieces wsX1_joinRoots := goodIn_r _ [9, 1, 10, 11, 12, 13, 14, 15, 16, 17, 18, 19, 20, 21, 22, 23, 24, 25, 26, 27] (by decide +kernel) (by decide +kernel)
set_option maxRecDepth 20000 in
theorem gX1_joinPieces_X1_joinRoots : GoodIn wsX1_joinPieces (wsV RX1 85 RX1 yX1_joinRoots wsX1_joinRoots) := goodIn_app (goodIn_of _ (by decide +kernel)) ggX1_joinPieces_X1_joinRoots
theorem dX1_joinPieces_0 : decode cX1_joinPieces 0 = .ok (.iconst 0, 1) := by decide +kernel
theorem dX1_joinPieces_1 : decode cX1_joinPieces 1 = .ok (.istore_n 1, 1) := by decide +kernel
theorem dX1_joinPieces_2 : decode cX1_joinPieces 2 = .ok (.iload_n 1, 1) := by decide +kernel
theorem dX1_joinPieces_3 : decode cX1_joinPieces 3 = .ok (.bipush 60, 2) := by decide +kernel
theorem dX1_joinPieces_5 : decode cX1_joinPieces 5 = .ok (.if_icmp .ge 16, 3) := by decide +kernel
theorem dX1_joinPieces_8 : decode cX1_joinPieces 8 = .ok (.aload_n 0, 1) := by decide +kernel
theorem dX1_joinPieces_9 : decode cX1_joinPieces 9 = .ok (.getfield 25, 3) := by decide +kernel
theorem dX1_joinPieces_12 : decode cX1_joinPieces 12 = .ok (.iload_n 1, 1) := by decide +kernel
theorem dX1_joinPieces_13 : decode cX1_joinPieces 13 = .ok (.iload_n 1, 1) := by decide +kernel
theorem dX1_joinPieces_14 : decode cX1_joinPieces 14 = .ok (.iastore, 1) := by decide +kernel
theorem dX1_joinPieces_15 : decode cX1_joinPieces 15 = .ok (.iinc 1 1, 3) := by decide +kernel
theorem dX1_joinPieces_18 : decode cX1_joinPieces 18 = .ok (.goto (-16), 3) := by decide +kernel
theorem dX1_joinPieces_21 : decode cX1_joinPieces 21 = .ok (.iconst 0, 1) := by decide +kernel
theorem dX1_joinPieces_22 : decode cX1_joinPieces 22 = .ok (.istore_n 1, 1) := by decide +kernel
theorem dX1_joinPieces_23 : decode cX1_joinPieces 23 = .ok (.iload_n 1, 1) := by decide +kernel
theorem dX1_joinPieces_24 : decode cX1_joinPieces 24 = .ok (.bipush 120, 2) := by decide +kernel
theorem dX1_joinPieces_26 : decode cX1_joinPieces 26 = .ok (.if_icmp .ge 48, 3) := by decide +kernel
theorem dX1_joinPieces_29 : decode cX1_joinPieces 29 = .ok (.aload_n 0, 1) := by decide +kernel
theorem dX1_joinPieces_30 : decode cX1_joinPieces 30 = .ok (.getfield 12, 3) := by decide +kernel
theorem dX1_joinPieces_33 : decode cX1_joinPieces 33 = .ok (.getfield 54, 3) := by decide +kernel
theorem dX1_joinPieces_36 : decode cX1_joinPieces 36 = .ok (.iload_n 1, 1) := by decide +kernel
theorem dX1_joinPieces_37 : decode cX1_joinPieces 37 = .ok (.iconst 1, 1) := by decide +kernel
theorem dX1_joinPieces_38 : decode cX1_joinPieces 38 = .ok (.ishr, 1) := by decide +kernel
theorem dX1_joinPieces_39 : decode cX1_joinPieces 39 = .ok (.baload, 1) := by decide +kernel
theorem dX1_joinPieces_40 : decode cX1_joinPieces 40 = .ok (.ifCond .eq 28, 3) := by decide +kernel
theorem dX1_joinPieces_43 : decode cX1_joinPieces 43 = .ok (.aload_n 0, 1) := by decide +kernel
theorem dX1_joinPieces_44 : decode cX1_joinPieces 44 = .ok (.aload_n 0, 1) := by decide +kernel
theorem dX1_joinPieces_45 : decode cX1_joinPieces 45 = .ok (.getfield 25, 3) := by decide +kernel
theorem dX1_joinPieces_48 : decode cX1_joinPieces 48 = .ok (.iload_n 1, 1) := by decide +kernel
theorem dX1_joinPieces_49 : decode cX1_joinPieces 49 = .ok (.iconst 1, 1) := by decide +kernel
theorem dX1_joinPieces_50 : decode cX1_joinPieces 50 = .ok (.ishr, 1) := by decide +kernel
theorem dX1_joinPieces_51 : decode cX1_joinPieces 51 = .ok (.iaload, 1) := by decide +kernel
theorem dX1_joinPieces_52 : decode cX1_joinPieces 52 = .ok (.aload_n 0, 1) := by decide +kernel
theorem dX1_joinPieces_53 : decode cX1_joinPieces 53 = .ok (.getfield 25, 3) := by decide +kernel
theorem dX1_joinPieces_56 : decode cX1_joinPieces 56 = .ok (.aload_n 0, 1) := by decide +kernel
theorem dX1_joinPieces_57 : decode cX1_joinPieces 57 = .ok (.getfield 18, 3) := by decide +kernel
theorem dX1_joinPieces_60 : decode cX1_joinPieces 60 = .ok (.iload_n 1, 1) := by decide +kernel
theorem dX1_joinPieces_61 : decode cX1_joinPieces 61 = .ok (.iaload, 1) := by decide +kernel
theorem dX1_joinPieces_62 : decode cX1_joinPieces 62 = .ok (.iconst 1, 1) := by decide +kernel
theorem dX1_joinPieces_63 : decode cX1_joinPieces 63 = .ok (.ishr, 1) := by decide +kernel
theorem dX1_joinPieces_64 : decode cX1_joinPieces 64 = .ok (.iaload, 1) := by decide +kernel
theorem dX1_joinPieces_65 : decode cX1_joinPieces 65 = .ok (.invokevirtual 85, 3) := by decide +kernel
theorem dX1_joinPieces_68 : decode cX1_joinPieces 68 = .ok (.iinc 1 1, 3) := by decide +kernel
theorem dX1_joinPieces_71 : decode cX1_joinPieces 71 = .ok (.goto (-48), 3) := by decide +kernel
theorem dX1_joinPieces_74 : decode cX1_joinPieces 74 = .ok (.return_, 1) := by decide +kernel
theorem dX1_joinRoots_0 : decode cX1_joinRoots 0 = .ok (.iload_n 1, 1) := by decide +kernel
theorem dX1_joinRoots_1 : decode cX1_joinRoots 1 = .ok (.iload_n 2, 1) := by decide +kernel
theorem dX1_joinRoots_2 : decode cX1_joinRoots 2 = .ok (.if_icmp .ne 4, 3) := by decide +kernel
theorem dX1_joinRoots_5 : decode cX1_joinRoots 5 = .ok (.return_, 1) := by decide +kernel
theorem dX1_joinRoots_6 : decode cX1_joinRoots 6 = .ok (.iconst 0, 1) := by decide +kernel
theorem dX1_joinRoots_7 : decode cX1_joinRoots 7 = .ok (.istore_n 3, 1) := by decide +kernel
theorem dX1_joinRoots_8 : decode cX1_joinRoots 8 = .ok (.iload_n 3, 1) := by decide +kernel
theorem dX1_joinRoots_9 : decode cX1_joinRoots 9 = .ok (.bipush 60, 2) := by decide +kernel
theorem dX1_joinRoots_11 : decode cX1_joinRoots 11 = .ok (.if_icmp .ge 34, 3) := by decide +kernel
theorem dX1_joinRoots_14 : decode cX1_joinRoots 14 = .ok (.aload_n 0, 1) := by decide +kernel
theorem dX1_joinRoots_15 : decode cX1_joinRoots 15 = .ok (.getfield 25, 3) := by decide +kernel
theorem dX1_joinRoots_18 : decode cX1_joinRoots 18 = .ok (.iload_n 3, 1) := by decide +kernel
theorem dX1_joinRoots_19 : decode cX1_joinRoots 19 = .ok (.iaload, 1) := by decide +kernel
theorem dX1_joinRoots_20 : decode cX1_joinRoots 20 = .ok (.iload_n 1, 1) := by decide +kernel
theorem dX1_joinRoots_21 : decode cX1_joinRoots 21 = .ok (.iload_n 2, 1) := by decide +kernel
theorem dX1_joinRoots_22 : decode cX1_joinRoots 22 = .ok (.invokestatic 89, 3) := by decide +kernel
theorem dX1_joinRoots_25 : decode cX1_joinRoots 25 = .ok (.if_icmp .ne 14, 3) := by decide +kernel
theorem dX1_joinRoots_28 : decode cX1_joinRoots 28 = .ok (.aload_n 0, 1) := by decide +kernel
theorem dX1_joinRoots_29 : decode cX1_joinRoots 29 = .ok (.getfield 25, 3) := by decide +kernel
theorem dX1_joinRoots_32 : decode cX1_joinRoots 32 = .ok (.iload_n 3, 1) := by decide +kernel
theorem dX1_joinRoots_33 : decode cX1_joinRoots 33 = .ok (.iload_n 1, 1) := by decide +kernel
theorem dX1_joinRoots_34 : decode cX1_joinRoots 34 = .ok (.iload_n 2, 1) := by decide +kernel
theorem dX1_joinRoots_35 : decode cX1_joinRoots 35 = .ok (.invokestatic 94, 3) := by decide +kernel
theorem dX1_joinRoots_38 : decode cX1_joinRoots 38 = .ok (.iastore, 1) := by decide +kernel
theorem dX1_joinRoots_39 : decode cX1_joinRoots 39 = .ok (.iinc 3 1, 3) := by decide +kernel
theorem dX1_joinRoots_42 : decode cX1_joinRoots 42 = .ok (.goto (-34), 3) := by decide +kernel
theorem dX1_joinRoots_45 : decode cX1_joinRoots 45 = .ok (.return_, 1) := by decide +kernel
theorem dX1_numberPieces_0 : decode cX1_numberPieces 0 = .ok (.aload_n 0, 1) := by decide +kernel
theorem dX1_numberPieces_1 : decode cX1_numberPieces 1 = .ok (.iconst 0, 1) := by decide +kernel
theorem dX1_numberPieces_2 : decode cX1_numberPieces 2 = .ok (.putfield 31, 3) := by decide +kernel
theorem dX1_numberPieces_5 : decode cX1_numberPieces 5 = .ok (.iconst 0, 1) := by decide +kernel
theorem dX1_numberPieces_6 : decode cX1_numberPieces 6 = .ok (.istore_n 1, 1) := by decide +kernel
theorem dX1_numberPieces_7 : decode cX1_numberPieces 7 = .ok (.iload_n 1, 1) := by decide +kernel
theorem dX1_numberPieces_8 : decode cX1_numberPieces 8 = .ok (.bipush 60, 2) := by decide +kernel
theorem dX1_numberPieces_10 : decode cX1_numberPieces 10 = .ok (.if_icmp .ge 87, 3) := by decide +kernel
theorem dX1_numberPieces_13 : decode cX1_numberPieces 13 = .ok (.aload_n 0, 1) := by decide +kernel
theorem dX1_numberPieces_14 : decode cX1_numberPieces 14 = .ok (.getfield 12, 3) := by decide +kernel
theorem dX1_numberPieces_17 : decode cX1_numberPieces 17 = .ok (.getfield 54, 3) := by decide +kernel
theorem dX1_numberPieces_20 : decode cX1_numberPieces 20 = .ok (.iload_n 1, 1) := by decide +kernel
theorem dX1_numberPieces_21 : decode cX1_numberPieces 21 = .ok (.baload, 1) := by decide +kernel
theorem dX1_numberPieces_22 : decode cX1_numberPieces 22 = .ok (.ifCond .eq 36, 3) := by decide +kernel
theorem dX1_numberPieces_25 : decode cX1_numberPieces 25 = .ok (.aload_n 0, 1) := by decide +kernel
theorem dX1_numberPieces_26 : decode cX1_numberPieces 26 = .ok (.getfield 25, 3) := by decide +kernel
theorem dX1_numberPieces_29 : decode cX1_numberPieces 29 = .ok (.iload_n 1, 1) := by decide +kernel
theorem dX1_numberPieces_30 : decode cX1_numberPieces 30 = .ok (.iaload, 1) := by decide +kernel
theorem dX1_numberPieces_31 : decode cX1_numberPieces 31 = .ok (.iload_n 1, 1) := by decide +kernel
theorem dX1_numberPieces_32 : decode cX1_numberPieces 32 = .ok (.if_icmp .ne 26, 3) := by decide +kernel
theorem dX1_numberPieces_35 : decode cX1_numberPieces 35 = .ok (.aload_n 0, 1) := by decide +kernel
theorem dX1_numberPieces_36 : decode cX1_numberPieces 36 = .ok (.getfield 28, 3) := by decide +kernel
theorem dX1_numberPieces_39 : decode cX1_numberPieces 39 = .ok (.iload_n 1, 1) := by decide +kernel
theorem dX1_numberPieces_40 : decode cX1_numberPieces 40 = .ok (.aload_n 0, 1) := by decide +kernel
theorem dX1_numberPieces_41 : decode cX1_numberPieces 41 = .ok (.getfield 31, 3) := by decide +kernel
theorem dX1_numberPieces_44 : decode cX1_numberPieces 44 = .ok (.iastore, 1) := by decide +kernel
theorem dX1_numberPieces_45 : decode cX1_numberPieces 45 = .ok (.aload_n 0, 1) := by decide +kernel
theorem dX1_numberPieces_46 : decode cX1_numberPieces 46 = .ok (.dup, 1) := by decide +kernel
theorem dX1_numberPieces_47 : decode cX1_numberPieces 47 = .ok (.getfield 31, 3) := by decide +kernel
theorem dX1_numberPieces_50 : decode cX1_numberPieces 50 = .ok (.iconst 1, 1) := by decide +kernel
theorem dX1_numberPieces_51 : decode cX1_numberPieces 51 = .ok (.iadd, 1) := by decide +kernel
theorem dX1_numberPieces_52 : decode cX1_numberPieces 52 = .ok (.putfield 31, 3) := by decide +kernel
theorem dX1_numberPieces_55 : decode cX1_numberPieces 55 = .ok (.goto 36, 3) := by decide +kernel
theorem dX1_numberPieces_58 : decode cX1_numberPieces 58 = .ok (.aload_n 0, 1) := by decide +kernel
theorem dX1_numberPieces_59 : decode cX1_numberPieces 59 = .ok (.getfield 28, 3) := by decide +kernel
theorem dX1_numberPieces_62 : decode cX1_numberPieces 62 = .ok (.iload_n 1, 1) := by decide +kernel
theorem dX1_numberPieces_63 : decode cX1_numberPieces 63 = .ok (.aload_n 0, 1) := by decide +kernel
theorem dX1_numberPieces_64 : decode cX1_numberPieces 64 = .ok (.getfield 12, 3) := by decide +kernel
theorem dX1_numberPieces_67 : decode cX1_numberPieces 67 = .ok (.getfield 54, 3) := by decide +kernel
theorem dX1_numberPieces_70 : decode cX1_numberPieces 70 = .ok (.iload_n 1, 1) := by decide +kernel
theorem dX1_numberPieces_71 : decode cX1_numberPieces 71 = .ok (.baload, 1) := by decide +kernel
theorem dX1_numberPieces_72 : decode cX1_numberPieces 72 = .ok (.ifCond .eq 17, 3) := by decide +kernel
theorem dX1_numberPieces_75 : decode cX1_numberPieces 75 = .ok (.aload_n 0, 1) := by decide +kernel
theorem dX1_numberPieces_76 : decode cX1_numberPieces 76 = .ok (.getfield 28, 3) := by decide +kernel
theorem dX1_numberPieces_79 : decode cX1_numberPieces 79 = .ok (.aload_n 0, 1) := by decide +kernel
theorem dX1_numberPieces_80 : decode cX1_numberPieces 80 = .ok (.getfield 25, 3) := by decide +kernel
theorem dX1_numberPieces_83 : decode cX1_numberPieces 83 = .ok (.iload_n 1, 1) := by decide +kernel
theorem dX1_numberPieces_84 : decode cX1_numberPieces 84 = .ok (.iaload, 1) := by decide +kernel
theorem dX1_numberPieces_85 : decode cX1_numberPieces 85 = .ok (.iaload, 1) := by decide +kernel
theorem dX1_numberPieces_86 : decode cX1_numberPieces 86 = .ok (.goto 4, 3) := by decide +kernel
theorem dX1_numberPieces_89 : decode cX1_numberPieces 89 = .ok (.iconst (-1), 1) := by decide +kernel
theorem dX1_numberPieces_90 : decode cX1_numberPieces 90 = .ok (.iastore, 1) := by decide +kernel
theorem dX1_numberPieces_91 : decode cX1_numberPieces 91 = .ok (.iinc 1 1, 3) := by decide +kernel
theorem dX1_numberPieces_94 : decode cX1_numberPieces 94 = .ok (.goto (-87), 3) := by decide +kernel
theorem dX1_numberPieces_97 : decode cX1_numberPieces 97 = .ok (.return_, 1) := by decide +kernel
set_option maxRecDepth 20000 in
theorem ggX1_walkRounds_J7_fill_53178 : GoodIn wsX1_walkRounds wsJ7_fill_53178 := goodIn_r _ [8] (by decide +kernel) (by decide +kernel)
set_option maxRecDepth 20000 in
theorem gX1_walkRounds_J7_fill_53178 : GoodIn wsX1_walkRounds (va_wsS RX1 97 yJ7_fill_53178 wsJ7_fill_53178) := goodIn_app (goodIn_of _ (by decide +kernel)) ggX1_walkRounds_J7_fill_53178
set_option maxRecDepth 20000 in
theorem ggX1_walkRounds_X1_walk : GoodIn wsX1_walkRounds wsX1_walk := goodIn_r _ [13, 14, 2, 15, 1, 3, 16, 17, 18, 19, 20, 21, 22, 23, 24, 25, 26, 27, 28, 29, 30, 31, 32, 33, 34, 35, 36, 37, 38] (by decide +kernel) (by decide +kernel)
set_option maxRecDepth 20000 in
theorem gX1_walkRounds_X1_walk : GoodIn wsX1_walkRounds (wsV RX1 103 RX1 yX1_walk wsX1_walk) := goodIn_app (goodIn_of _ (by decide +kernel)) ggX1_walkRounds_X1_walk
theorem dX1_walkRounds_0 : decode cX1_walkRounds 0 = .ok (.aload_n 0, 1) := by decide +kernel
theorem dX1_walkRounds_1 : decode cX1_walkRounds 1 = .ok (.getfield 35, 3) := by decide +kernel
theorem dX1_walkRounds_4 : decode cX1_walkRounds 4 = .ok (.iconst (-1), 1) := by decide +kernel
theorem dX1_walkRounds_5 : decode cX1_walkRounds 5 = .ok (.invokestatic 97, 3) := by decide +kernel
theorem dX1_walkRounds_8 : decode cX1_walkRounds 8 = .ok (.aload_n 0, 1) := by decide +kernel
theorem dX1_walkRounds_9 : decode cX1_walkRounds 9 = .ok (.iconst 0, 1) := by decide +kernel
theorem dX1_walkRounds_10 : decode cX1_walkRounds 10 = .ok (.putfield 48, 3) := by decide +kernel
theorem dX1_walkRounds_13 : decode cX1_walkRounds 13 = .ok (.iconst 0, 1) := by decide +kernel
theorem dX1_walkRounds_14 : decode cX1_walkRounds 14 = .ok (.istore_n 1, 1) := by decide +kernel
theorem dX1_walkRounds_15 : decode cX1_walkRounds 15 = .ok (.iload_n 1, 1) := by decide +kernel
theorem dX1_walkRounds_16 : decode cX1_walkRounds 16 = .ok (.bipush 120, 2) := by decide +kernel
theorem dX1_walkRounds_18 : decode cX1_walkRounds 18 = .ok (.if_icmp .ge 48, 3) := by decide +kernel
theorem dX1_walkRounds_21 : decode cX1_walkRounds 21 = .ok (.aload_n 0, 1) := by decide +kernel
theorem dX1_walkRounds_22 : decode cX1_walkRounds 22 = .ok (.getfield 12, 3) := by decide +kernel
theorem dX1_walkRounds_25 : decode cX1_walkRounds 25 = .ok (.getfield 54, 3) := by decide +kernel
theorem dX1_walkRounds_28 : decode cX1_walkRounds 28 = .ok (.iload_n 1, 1) := by decide +kernel
theorem dX1_walkRounds_29 : decode cX1_walkRounds 29 = .ok (.iconst 1, 1) := by decide +kernel
theorem dX1_walkRounds_30 : decode cX1_walkRounds 30 = .ok (.ishr, 1) := by decide +kernel
theorem dX1_walkRounds_31 : decode cX1_walkRounds 31 = .ok (.baload, 1) := by decide +kernel
theorem dX1_walkRounds_32 : decode cX1_walkRounds 32 = .ok (.ifCond .eq 28, 3) := by decide +kernel
theorem dX1_walkRounds_35 : decode cX1_walkRounds 35 = .ok (.aload_n 0, 1) := by decide +kernel
theorem dX1_walkRounds_36 : decode cX1_walkRounds 36 = .ok (.getfield 35, 3) := by decide +kernel
theorem dX1_walkRounds_39 : decode cX1_walkRounds 39 = .ok (.iload_n 1, 1) := by decide +kernel
theorem dX1_walkRounds_40 : decode cX1_walkRounds 40 = .ok (.iaload, 1) := by decide +kernel
theorem dX1_walkRounds_41 : decode cX1_walkRounds 41 = .ok (.iconst (-1), 1) := by decide +kernel
theorem dX1_walkRounds_42 : decode cX1_walkRounds 42 = .ok (.if_icmp .ne 18, 3) := by decide +kernel
theorem dX1_walkRounds_45 : decode cX1_walkRounds 45 = .ok (.aload_n 0, 1) := by decide +kernel
theorem dX1_walkRounds_46 : decode cX1_walkRounds 46 = .ok (.iload_n 1, 1) := by decide +kernel
theorem dX1_walkRounds_47 : decode cX1_walkRounds 47 = .ok (.invokevirtual 103, 3) := by decide +kernel
theorem dX1_walkRounds_50 : decode cX1_walkRounds 50 = .ok (.aload_n 0, 1) := by decide +kernel
theorem dX1_walkRounds_51 : decode cX1_walkRounds 51 = .ok (.dup, 1) := by decide +kernel
theorem dX1_walkRounds_52 : decode cX1_walkRounds 52 = .ok (.getfield 48, 3) := by decide +kernel
theorem dX1_walkRounds_55 : decode cX1_walkRounds 55 = .ok (.iconst 1, 1) := by decide +kernel
theorem dX1_walkRounds_56 : decode cX1_walkRounds 56 = .ok (.iadd, 1) := by decide +kernel
theorem dX1_walkRounds_57 : decode cX1_walkRounds 57 = .ok (.putfield 48, 3) := by decide +kernel
theorem dX1_walkRounds_60 : decode cX1_walkRounds 60 = .ok (.iinc 1 1, 3) := by decide +kernel
theorem dX1_walkRounds_63 : decode cX1_walkRounds 63 = .ok (.goto (-48), 3) := by decide +kernel
theorem dX1_walkRounds_66 : decode cX1_walkRounds 66 = .ok (.return_, 1) := by decide +kernel
set_option maxRecDepth 20000 in
theorem ggX1_walk_X2_sweep : GoodIn wsX1_walk wsX2_sweep := goodIn_r _ [11, 12, 13, 25, 26, 27, 28] (by decide +kernel) (by decide +kernel)
set_option maxRecDepth 20000 in
theorem gX1_walk_X2_sweep : GoodIn wsX1_walk (wsV RX1 107 RX2 yX2_sweep wsX2_sweep) := goodIn_app (goodIn_of _ (by decide +kernel)) ggX1_walk_X2_sweep
theorem dX1_walk_0 : decode cX1_walk 0 = .ok (.aload_n 0, 1) := by decide +kernel
theorem dX1_walk_1 : decode cX1_walk 1 = .ok (.getfield 38, 3) := by decide +kernel
theorem dX1_walk_4 : decode cX1_walk 4 = .ok (.aload_n 0, 1) := by decide +kernel
theorem dX1_walk_5 : decode cX1_walk 5 = .ok (.getfield 48, 3) := by decide +kernel
theorem dX1_walk_8 : decode cX1_walk 8 = .ok (.iload_n 1, 1) := by decide +kernel
theorem dX1_walk_9 : decode cX1_walk 9 = .ok (.iastore, 1) := by decide +kernel
theorem dX1_walk_10 : decode cX1_walk 10 = .ok (.aload_n 0, 1) := by decide +kernel
theorem dX1_walk_11 : decode cX1_walk 11 = .ok (.getfield 41, 3) := by decide +kernel
theorem dX1_walk_14 : decode cX1_walk 14 = .ok (.aload_n 0, 1) := by decide +kernel
theorem dX1_walk_15 : decode cX1_walk 15 = .ok (.getfield 48, 3) := by decide +kernel
theorem dX1_walk_18 : decode cX1_walk 18 = .ok (.lconst 0, 1) := by decide +kernel
theorem dX1_walk_19 : decode cX1_walk 19 = .ok (.lastore, 1) := by decide +kernel
theorem dX1_walk_20 : decode cX1_walk 20 = .ok (.iload_n 1, 1) := by decide +kernel
theorem dX1_walk_21 : decode cX1_walk 21 = .ok (.istore_n 2, 1) := by decide +kernel
theorem dX1_walk_22 : decode cX1_walk 22 = .ok (.iconst 0, 1) := by decide +kernel
theorem dX1_walk_23 : decode cX1_walk 23 = .ok (.istore_n 3, 1) := by decide +kernel
theorem dX1_walk_24 : decode cX1_walk 24 = .ok (.iload_n 3, 1) := by decide +kernel
theorem dX1_walk_25 : decode cX1_walk 25 = .ok (.bipush 120, 2) := by decide +kernel
theorem dX1_walk_27 : decode cX1_walk 27 = .ok (.if_icmp .ge 56, 3) := by decide +kernel
theorem dX1_walk_30 : decode cX1_walk 30 = .ok (.aload_n 0, 1) := by decide +kernel
theorem dX1_walk_31 : decode cX1_walk 31 = .ok (.getfield 35, 3) := by decide +kernel
theorem dX1_walk_34 : decode cX1_walk 34 = .ok (.iload_n 2, 1) := by decide +kernel
theorem dX1_walk_35 : decode cX1_walk 35 = .ok (.iaload, 1) := by decide +kernel
theorem dX1_walk_36 : decode cX1_walk 36 = .ok (.iconst (-1), 1) := by decide +kernel
theorem dX1_walk_37 : decode cX1_walk 37 = .ok (.if_icmp .ne 46, 3) := by decide +kernel
theorem dX1_walk_40 : decode cX1_walk 40 = .ok (.aload_n 0, 1) := by decide +kernel
theorem dX1_walk_41 : decode cX1_walk 41 = .ok (.getfield 35, 3) := by decide +kernel
theorem dX1_walk_44 : decode cX1_walk 44 = .ok (.iload_n 2, 1) := by decide +kernel
theorem dX1_walk_45 : decode cX1_walk 45 = .ok (.aload_n 0, 1) := by decide +kernel
theorem dX1_walk_46 : decode cX1_walk 46 = .ok (.getfield 48, 3) := by decide +kernel
theorem dX1_walk_49 : decode cX1_walk 49 = .ok (.iastore, 1) := by decide +kernel
theorem dX1_walk_50 : decode cX1_walk 50 = .ok (.aload_n 0, 1) := by decide +kernel
theorem dX1_walk_51 : decode cX1_walk 51 = .ok (.getfield 41, 3) := by decide +kernel
theorem dX1_walk_54 : decode cX1_walk 54 = .ok (.aload_n 0, 1) := by decide +kernel
theorem dX1_walk_55 : decode cX1_walk 55 = .ok (.getfield 48, 3) := by decide +kernel
theorem dX1_walk_58 : decode cX1_walk 58 = .ok (.dup2, 1) := by decide +kernel
theorem dX1_walk_59 : decode cX1_walk 59 = .ok (.laload, 1) := by decide +kernel
theorem dX1_walk_60 : decode cX1_walk 60 = .ok (.aload_n 0, 1) := by decide +kernel
theorem dX1_walk_61 : decode cX1_walk 61 = .ok (.getfield 12, 3) := by decide +kernel
theorem dX1_walk_64 : decode cX1_walk 64 = .ok (.iload_n 2, 1) := by decide +kernel
theorem dX1_walk_65 : decode cX1_walk 65 = .ok (.invokevirtual 107, 3) := by decide +kernel
theorem dX1_walk_68 : decode cX1_walk 68 = .ok (.ladd, 1) := by decide +kernel
theorem dX1_walk_69 : decode cX1_walk 69 = .ok (.lastore, 1) := by decide +kernel
theorem dX1_walk_70 : decode cX1_walk 70 = .ok (.aload_n 0, 1) := by decide +kernel
theorem dX1_walk_71 : decode cX1_walk 71 = .ok (.getfield 22, 3) := by decide +kernel
theorem dX1_walk_74 : decode cX1_walk 74 = .ok (.iload_n 2, 1) := by decide +kernel
theorem dX1_walk_75 : decode cX1_walk 75 = .ok (.iaload, 1) := by decide +kernel
theorem dX1_walk_76 : decode cX1_walk 76 = .ok (.istore_n 2, 1) := by decide +kernel
theorem dX1_walk_77 : decode cX1_walk 77 = .ok (.iinc 3 1, 3) := by decide +kernel
theorem dX1_walk_80 : decode cX1_walk 80 = .ok (.goto (-56), 3) := by decide +kernel
theorem dX1_walk_83 : decode cX1_walk 83 = .ok (.return_, 1) := by decide +kernel
theorem dX1_pieceOfRound_0 : decode cX1_pieceOfRound 0 = .ok (.aload_n 0, 1) := by decide +kernel
theorem dX1_pieceOfRound_1 : decode cX1_pieceOfRound 1 = .ok (.getfield 28, 3) := by decide +kernel
theorem dX1_pieceOfRound_4 : decode cX1_pieceOfRound 4 = .ok (.aload_n 0, 1) := by decide +kernel
theorem dX1_pieceOfRound_5 : decode cX1_pieceOfRound 5 = .ok (.getfield 38, 3) := by decide +kernel
theorem dX1_pieceOfRound_8 : decode cX1_pieceOfRound 8 = .ok (.iload_n 1, 1) := by decide +kernel
theorem dX1_pieceOfRound_9 : decode cX1_pieceOfRound 9 = .ok (.iaload, 1) := by decide +kernel
theorem dX1_pieceOfRound_10 : decode cX1_pieceOfRound 10 = .ok (.iconst 1, 1) := by decide +kernel
theorem dX1_pieceOfRound_11 : decode cX1_pieceOfRound 11 = .ok (.ishr, 1) := by decide +kernel
theorem dX1_pieceOfRound_12 : decode cX1_pieceOfRound 12 = .ok (.iaload, 1) := by decide +kernel
theorem dX1_pieceOfRound_13 : decode cX1_pieceOfRound 13 = .ok (.ireturn, 1) := by decide +kernel
set_option maxRecDepth 20000 in
theorem ggX1_enclosing_X1_markOddRounds : GoodIn wsX1_enclosing wsX1_markOddRounds := goodIn_r _ [8, 2, 9, 10, 11, 12, 13, 14, 15, 16, 17, 18, 19, 20, 21, 22, 23, 24, 25, 26, 27, 28, 29, 30, 37, 38, 39, 40, 41, 42, 43, 44, 45, 46, 47, 48, 49, 50, 51] (by decide +kernel) (by decide +kernel)
set_option maxRecDepth 20000 in
theorem gX1_enclosing_X1_markOddRounds : GoodIn wsX1_enclosing (wsV RX1 111 RX1 yX1_markOddRounds wsX1_markOddRounds) := goodIn_app (goodIn_of _ (by decide +kernel)) ggX1_enclosing_X1_markOddRounds
set_option maxRecDepth 20000 in
theorem ggX1_enclosing_X1_pieceOfRound : GoodIn wsX1_enclosing wsX1_pieceOfRound := goodIn_r _ [34, 35, 36, 37, 38, 39, 40, 41, 42, 43, 44, 45, 46, 47] (by decide +kernel) (by decide +kernel)
set_option maxRecDepth 20000 in
theorem gX1_enclosing_X1_pieceOfRound : GoodIn wsX1_enclosing (wsV RX1 114 RX1 yX1_pieceOfRound wsX1_pieceOfRound) := goodIn_app (goodIn_of _ (by decide +kernel)) ggX1_enclosing_X1_pieceOfRound
theorem dX1_enclosing_0 : decode cX1_enclosing 0 = .ok (.aload_n 0, 1) := by decide +kernel
theorem dX1_enclosing_1 : decode cX1_enclosing 1 = .ok (.iload_n 1, 1) := by decide +kernel
theorem dX1_enclosing_2 : decode cX1_enclosing 2 = .ok (.iload_n 2, 1) := by decide +kernel
theorem dX1_enclosing_3 : decode cX1_enclosing 3 = .ok (.invokevirtual 111, 3) := by decide +kernel
theorem dX1_enclosing_6 : decode cX1_enclosing 6 = .ok (.iconst (-1), 1) := by decide +kernel
theorem dX1_enclosing_7 : decode cX1_enclosing 7 = .ok (.istore 4, 2) := by decide +kernel
theorem dX1_enclosing_9 : decode cX1_enclosing 9 = .ok (.iconst 0, 1) := by decide +kernel
theorem dX1_enclosing_10 : decode cX1_enclosing 10 = .ok (.istore 5, 2) := by decide +kernel
theorem dX1_enclosing_12 : decode cX1_enclosing 12 = .ok (.iload 5, 2) := by decide +kernel
theorem dX1_enclosing_14 : decode cX1_enclosing 14 = .ok (.aload_n 0, 1) := by decide +kernel
theorem dX1_enclosing_15 : decode cX1_enclosing 15 = .ok (.getfield 48, 3) := by decide +kernel
theorem dX1_enclosing_18 : decode cX1_enclosing 18 = .ok (.if_icmp .ge 82, 3) := by decide +kernel
theorem dX1_enclosing_21 : decode cX1_enclosing 21 = .ok (.aload_n 0, 1) := by decide +kernel
theorem dX1_enclosing_22 : decode cX1_enclosing 22 = .ok (.getfield 45, 3) := by decide +kernel
theorem dX1_enclosing_25 : decode cX1_enclosing 25 = .ok (.iload 5, 2) := by decide +kernel
theorem dX1_enclosing_27 : decode cX1_enclosing 27 = .ok (.iaload, 1) := by decide +kernel
theorem dX1_enclosing_28 : decode cX1_enclosing 28 = .ok (.iconst 1, 1) := by decide +kernel
theorem dX1_enclosing_29 : decode cX1_enclosing 29 = .ok (.if_icmp .ne 29, 3) := by decide +kernel
theorem dX1_enclosing_32 : decode cX1_enclosing 32 = .ok (.aload_n 0, 1) := by decide +kernel
theorem dX1_enclosing_33 : decode cX1_enclosing 33 = .ok (.getfield 41, 3) := by decide +kernel
theorem dX1_enclosing_36 : decode cX1_enclosing 36 = .ok (.iload 5, 2) := by decide +kernel
theorem dX1_enclosing_38 : decode cX1_enclosing 38 = .ok (.laload, 1) := by decide +kernel
theorem dX1_enclosing_39 : decode cX1_enclosing 39 = .ok (.lconst 0, 1) := by decide +kernel
theorem dX1_enclosing_40 : decode cX1_enclosing 40 = .ok (.lcmp, 1) := by decide +kernel
theorem dX1_enclosing_41 : decode cX1_enclosing 41 = .ok (.ifCond .le 17, 3) := by decide +kernel
theorem dX1_enclosing_44 : decode cX1_enclosing 44 = .ok (.aload_n 0, 1) := by decide +kernel
theorem dX1_enclosing_45 : decode cX1_enclosing 45 = .ok (.iload 5, 2) := by decide +kernel
theorem dX1_enclosing_47 : decode cX1_enclosing 47 = .ok (.invokevirtual 114, 3) := by decide +kernel
theorem dX1_enclosing_50 : decode cX1_enclosing 50 = .ok (.iload_n 3, 1) := by decide +kernel
theorem dX1_enclosing_51 : decode cX1_enclosing 51 = .ok (.if_icmp .eq 7, 3) := by decide +kernel
theorem dX1_enclosing_54 : decode cX1_enclosing 54 = .ok (.iconst 1, 1) := by decide +kernel
theorem dX1_enclosing_55 : decode cX1_enclosing 55 = .ok (.goto 4, 3) := by decide +kernel
theorem dX1_enclosing_58 : decode cX1_enclosing 58 = .ok (.iconst 0, 1) := by decide +kernel
theorem dX1_enclosing_59 : decode cX1_enclosing 59 = .ok (.istore 6, 2) := by decide +kernel
theorem dX1_enclosing_61 : decode cX1_enclosing 61 = .ok (.iload 6, 2) := by decide +kernel
theorem dX1_enclosing_63 : decode cX1_enclosing 63 = .ok (.ifCond .eq 31, 3) := by decide +kernel
theorem dX1_enclosing_66 : decode cX1_enclosing 66 = .ok (.iload 4, 2) := by decide +kernel
theorem dX1_enclosing_68 : decode cX1_enclosing 68 = .ok (.iconst (-1), 1) := by decide +kernel
theorem dX1_enclosing_69 : decode cX1_enclosing 69 = .ok (.if_icmp .eq 21, 3) := by decide +kernel
theorem dX1_enclosing_72 : decode cX1_enclosing 72 = .ok (.aload_n 0, 1) := by decide +kernel
theorem dX1_enclosing_73 : decode cX1_enclosing 73 = .ok (.getfield 41, 3) := by decide +kernel
theorem dX1_enclosing_76 : decode cX1_enclosing 76 = .ok (.iload 5, 2) := by decide +kernel
theorem dX1_enclosing_78 : decode cX1_enclosing 78 = .ok (.laload, 1) := by decide +kernel
theorem dX1_enclosing_79 : decode cX1_enclosing 79 = .ok (.aload_n 0, 1) := by decide +kernel
theorem dX1_enclosing_80 : decode cX1_enclosing 80 = .ok (.getfield 41, 3) := by decide +kernel
theorem dX1_enclosing_83 : decode cX1_enclosing 83 = .ok (.iload 4, 2) := by decide +kernel
theorem dX1_enclosing_85 : decode cX1_enclosing 85 = .ok (.laload, 1) := by decide +kernel
theorem dX1_enclosing_86 : decode cX1_enclosing 86 = .ok (.lcmp, 1) := by decide +kernel
theorem dX1_enclosing_87 : decode cX1_enclosing 87 = .ok (.ifCond .ge 7, 3) := by decide +kernel
theorem dX1_enclosing_90 : decode cX1_enclosing 90 = .ok (.iload 5, 2) := by decide +kernel
theorem dX1_enclosing_92 : decode cX1_enclosing 92 = .ok (.istore 4, 2) := by decide +kernel
theorem dX1_enclosing_94 : decode cX1_enclosing 94 = .ok (.iinc 5 1, 3) := by decide +kernel
theorem dX1_enclosing_97 : decode cX1_enclosing 97 = .ok (.goto (-85), 3) := by decide +kernel
theorem dX1_enclosing_100 : decode cX1_enclosing 100 = .ok (.iload 4, 2) := by decide +kernel
theorem dX1_enclosing_102 : decode cX1_enclosing 102 = .ok (.ireturn, 1) := by decide +kernel
set_option maxRecDepth 20000 in
theorem ggX1_markOddRounds_J7_fill_53178 : GoodIn wsX1_markOddRounds wsJ7_fill_53178 := goodIn_r _ [8] (by decide +kernel) (by decide +kernel)
set_option maxRecDepth 20000 in
theorem gX1_markOddRounds_J7_fill_53178 : GoodIn wsX1_markOddRounds (va_wsS RX1 97 yJ7_fill_53178 wsJ7_fill_53178) := goodIn_app (goodIn_of _ (by decide +kernel)) ggX1_markOddRounds_J7_fill_53178
set_option maxRecDepth 20000 in
theorem ggX1_markOddRounds_X2_roofs : GoodIn wsX1_markOddRounds wsX2_roofs := goodIn_r _ [13, 14, 15, 16, 17, 12, 18, 19, 20, 21, 22, 23, 35, 36, 37, 38] (by decide +kernel) (by decide +kernel)
set_option maxRecDepth 20000 in
theorem gX1_markOddRounds_X2_roofs : GoodIn wsX1_markOddRounds (wsV RX1 117 RX2 yX2_roofs wsX2_roofs) := goodIn_app (goodIn_of _ (by decide +kernel)) ggX1_markOddRounds_X2_roofs
theorem dX1_markOddRounds_0 : decode cX1_markOddRounds 0 = .ok (.aload_n 0, 1) := by decide +kernel
theorem dX1_markOddRounds_1 : decode cX1_markOddRounds 1 = .ok (.getfield 45, 3) := by decide +kernel
theorem dX1_markOddRounds_4 : decode cX1_markOddRounds 4 = .ok (.iconst 0, 1) := by decide +kernel
theorem dX1_markOddRounds_5 : decode cX1_markOddRounds 5 = .ok (.invokestatic 97, 3) := by decide +kernel
theorem dX1_markOddRounds_8 : decode cX1_markOddRounds 8 = .ok (.iconst 0, 1) := by decide +kernel
theorem dX1_markOddRounds_9 : decode cX1_markOddRounds 9 = .ok (.istore_n 3, 1) := by decide +kernel
theorem dX1_markOddRounds_10 : decode cX1_markOddRounds 10 = .ok (.iload_n 3, 1) := by decide +kernel
theorem dX1_markOddRounds_11 : decode cX1_markOddRounds 11 = .ok (.bipush 60, 2) := by decide +kernel
theorem dX1_markOddRounds_13 : decode cX1_markOddRounds 13 = .ok (.if_icmp .ge 70, 3) := by decide +kernel
theorem dX1_markOddRounds_16 : decode cX1_markOddRounds 16 = .ok (.aload_n 0, 1) := by decide +kernel
theorem dX1_markOddRounds_17 : decode cX1_markOddRounds 17 = .ok (.getfield 12, 3) := by decide +kernel
theorem dX1_markOddRounds_20 : decode cX1_markOddRounds 20 = .ok (.getfield 54, 3) := by decide +kernel
theorem dX1_markOddRounds_23 : decode cX1_markOddRounds 23 = .ok (.iload_n 3, 1) := by decide +kernel
theorem dX1_markOddRounds_24 : decode cX1_markOddRounds 24 = .ok (.baload, 1) := by decide +kernel
theorem dX1_markOddRounds_25 : decode cX1_markOddRounds 25 = .ok (.ifCond .eq 52, 3) := by decide +kernel
theorem dX1_markOddRounds_28 : decode cX1_markOddRounds 28 = .ok (.aload_n 0, 1) := by decide +kernel
theorem dX1_markOddRounds_29 : decode cX1_markOddRounds 29 = .ok (.getfield 12, 3) := by decide +kernel
theorem dX1_markOddRounds_32 : decode cX1_markOddRounds 32 = .ok (.iload_n 3, 1) := by decide +kernel
theorem dX1_markOddRounds_33 : decode cX1_markOddRounds 33 = .ok (.iload_n 1, 1) := by decide +kernel
theorem dX1_markOddRounds_34 : decode cX1_markOddRounds 34 = .ok (.iload_n 2, 1) := by decide +kernel
theorem dX1_markOddRounds_35 : decode cX1_markOddRounds 35 = .ok (.invokevirtual 117, 3) := by decide +kernel
theorem dX1_markOddRounds_38 : decode cX1_markOddRounds 38 = .ok (.ifCond .eq 39, 3) := by decide +kernel
theorem dX1_markOddRounds_41 : decode cX1_markOddRounds 41 = .ok (.aload_n 0, 1) := by decide +kernel
theorem dX1_markOddRounds_42 : decode cX1_markOddRounds 42 = .ok (.getfield 45, 3) := by decide +kernel
theorem dX1_markOddRounds_45 : decode cX1_markOddRounds 45 = .ok (.aload_n 0, 1) := by decide +kernel
theorem dX1_markOddRounds_46 : decode cX1_markOddRounds 46 = .ok (.getfield 35, 3) := by decide +kernel
theorem dX1_markOddRounds_49 : decode cX1_markOddRounds 49 = .ok (.iconst 2, 1) := by decide +kernel
theorem dX1_markOddRounds_50 : decode cX1_markOddRounds 50 = .ok (.iload_n 3, 1) := by decide +kernel
theorem dX1_markOddRounds_51 : decode cX1_markOddRounds 51 = .ok (.imul, 1) := by decide +kernel
theorem dX1_markOddRounds_52 : decode cX1_markOddRounds 52 = .ok (.iaload, 1) := by decide +kernel
theorem dX1_markOddRounds_53 : decode cX1_markOddRounds 53 = .ok (.dup2, 1) := by decide +kernel
theorem dX1_markOddRounds_54 : decode cX1_markOddRounds 54 = .ok (.iaload, 1) := by decide +kernel
theorem dX1_markOddRounds_55 : decode cX1_markOddRounds 55 = .ok (.iconst 1, 1) := by decide +kernel
theorem dX1_markOddRounds_56 : decode cX1_markOddRounds 56 = .ok (.ixor, 1) := by decide +kernel
theorem dX1_markOddRounds_57 : decode cX1_markOddRounds 57 = .ok (.iastore, 1) := by decide +kernel
theorem dX1_markOddRounds_58 : decode cX1_markOddRounds 58 = .ok (.aload_n 0, 1) := by decide +kernel
theorem dX1_markOddRounds_59 : decode cX1_markOddRounds 59 = .ok (.getfield 45, 3) := by decide +kernel
theorem dX1_markOddRounds_62 : decode cX1_markOddRounds 62 = .ok (.aload_n 0, 1) := by decide +kernel
theorem dX1_markOddRounds_63 : decode cX1_markOddRounds 63 = .ok (.getfield 35, 3) := by decide +kernel
theorem dX1_markOddRounds_66 : decode cX1_markOddRounds 66 = .ok (.iconst 2, 1) := by decide +kernel
theorem dX1_markOddRounds_67 : decode cX1_markOddRounds 67 = .ok (.iload_n 3, 1) := by decide +kernel
theorem dX1_markOddRounds_68 : decode cX1_markOddRounds 68 = .ok (.imul, 1) := by decide +kernel
theorem dX1_markOddRounds_69 : decode cX1_markOddRounds 69 = .ok (.iconst 1, 1) := by decide +kernel
theorem dX1_markOddRounds_70 : decode cX1_markOddRounds 70 = .ok (.iadd, 1) := by decide +kernel
theorem dX1_markOddRounds_71 : decode cX1_markOddRounds 71 = .ok (.iaload, 1) := by decide +kernel
theorem dX1_markOddRounds_72 : decode cX1_markOddRounds 72 = .ok (.dup2, 1) := by decide +kernel
theorem dX1_markOddRounds_73 : decode cX1_markOddRounds 73 = .ok (.iaload, 1) := by decide +kernel
theorem dX1_markOddRounds_74 : decode cX1_markOddRounds 74 = .ok (.iconst 1, 1) := by decide +kernel
theorem dX1_markOddRounds_75 : decode cX1_markOddRounds 75 = .ok (.ixor, 1) := by decide +kernel
theorem dX1_markOddRounds_76 : decode cX1_markOddRounds 76 = .ok (.iastore, 1) := by decide +kernel
theorem dX1_markOddRounds_77 : decode cX1_markOddRounds 77 = .ok (.iinc 3 1, 3) := by decide +kernel
theorem dX1_markOddRounds_80 : decode cX1_markOddRounds 80 = .ok (.goto (-70), 3) := by decide +kernel
theorem dX1_markOddRounds_83 : decode cX1_markOddRounds 83 = .ok (.return_, 1) := by decide +kernel
set_option maxRecDepth 20000 in
theorem ggX3_init_X0_init : GoodIn wsX3_init wsX0_init := goodIn_r _ [14, 15, 2, 3, 16, 17, 18, 19, 20, 21, 22, 23, 24, 25, 26, 27, 28, 29, 30, 31, 32, 33, 34, 35, 36, 37, 38, 39, 40, 41, 42, 43, 44, 45, 46, 47, 48, 49, 50, 51, 52, 53, 54, 67, 68, 69, 70, 71, 72, 73, 74, 75, 76, 77, 55, 56, 57, 58, 59, 60, 61, 62, 78, 79, 80, 81] (by decide +kernel) (by decide +kernel)
set_option maxRecDepth 20000 in
theorem gX3_init_X0_init_n11 : GoodIn wsX3_init (wsX0_init) := ggX3_init_X0_init
theorem dX3_init_0 : decode cX3_init 0 = .ok (.aload_n 0, 1) := by decide +kernel
theorem dX3_init_1 : decode cX3_init 1 = .ok (.invokespecial 3, 3) := by decide +kernel
theorem dX3_init_4 : decode cX3_init 4 = .ok (.aload_n 0, 1) := by decide +kernel
theorem dX3_init_5 : decode cX3_init 5 = .ok (.new 9, 3) := by decide +kernel
theorem dX3_init_8 : decode cX3_init 8 = .ok (.dup, 1) := by decide +kernel
theorem dX3_init_9 : decode cX3_init 9 = .ok (.invokespecial 11, 3) := by decide +kernel
theorem dX3_init_12 : decode cX3_init 12 = .ok (.putfield 12, 3) := by decide +kernel
theorem dX3_init_15 : decode cX3_init 15 = .ok (.aload_n 0, 1) := by decide +kernel
theorem dX3_init_16 : decode cX3_init 16 = .ok (.aload_n 0, 1) := by decide +kernel
theorem dX3_init_17 : decode cX3_init 17 = .ok (.getfield 12, 3) := by decide +kernel
theorem dX3_init_20 : decode cX3_init 20 = .ok (.getfield 16, 3) := by decide +kernel
theorem dX3_init_23 : decode cX3_init 23 = .ok (.putfield 20, 3) := by decide +kernel
theorem dX3_init_26 : decode cX3_init 26 = .ok (.aload_n 0, 1) := by decide +kernel
theorem dX3_init_27 : decode cX3_init 27 = .ok (.aload_n 0, 1) := by decide +kernel
theorem dX3_init_28 : decode cX3_init 28 = .ok (.getfield 20, 3) := by decide +kernel
theorem dX3_init_31 : decode cX3_init 31 = .ok (.getfield 21, 3) := by decide +kernel
theorem dX3_init_34 : decode cX3_init 34 = .ok (.putfield 27, 3) := by decide +kernel
theorem dX3_init_37 : decode cX3_init 37 = .ok (.aload_n 0, 1) := by decide +kernel
theorem dX3_init_38 : decode cX3_init 38 = .ok (.iconst 0, 1) := by decide +kernel
theorem dX3_init_39 : decode cX3_init 39 = .ok (.putfield 28, 3) := by decide +kernel
theorem dX3_init_42 : decode cX3_init 42 = .ok (.return_, 1) := by decide +kernel
set_option maxRecDepth 20000 in
theorem ggX3_add_X3_requirePlace : GoodIn wsX3_add wsX3_requirePlace := goodIn_ca (goodIn_r _ [10, 1, 2] (by decide +kernel) (by decide +kernel)) (goodIn_sub (fun _ h => List.mem_cons_of_mem _ (List.mem_append_left _ (List.mem_append_right _ h))) (by decide +kernel))
set_option maxRecDepth 20000 in
theorem gX3_add_X3_requirePlace : GoodIn wsX3_add (va_wsS RX3 32 yX3_requirePlace wsX3_requirePlace) := goodIn_app (goodIn_of _ (by decide +kernel)) ggX3_add_X3_requirePlace
set_option maxRecDepth 20000 in
theorem ggX3_add_X2_leastFree : GoodIn wsX3_add wsX2_leastFree := goodIn_r _ [15, 16, 64, 65, 66, 67] (by decide +kernel) (by decide +kernel)
set_option maxRecDepth 20000 in
theorem gX3_add_X2_leastFree : GoodIn wsX3_add (wsV RX3 43 RX2 yX2_leastFree wsX2_leastFree) := goodIn_app (goodIn_of _ (by decide +kernel)) ggX3_add_X2_leastFree
set_option maxRecDepth 20000 in
theorem ggX3_add_X2_draw : GoodIn wsX3_add wsX2_draw := goodIn_r _ [20, 21, 22, 64, 65, 66, 67] (by decide +kernel) (by decide +kernel)
set_option maxRecDepth 20000 in
theorem gX3_add_X2_draw : GoodIn wsX3_add (wsV RX3 54 RX2 yX2_draw wsX2_draw) := goodIn_app (goodIn_of _ (by decide +kernel)) ggX3_add_X2_draw
set_option maxRecDepth 20000 in
theorem ggX3_add_X2_clashes : GoodIn wsX3_add wsX2_clashes := goodIn_r _ [26, 16, 27, 28, 29, 14, 30, 21, 22, 31, 32, 33, 34, 35, 36, 37, 38, 39, 40, 41, 42, 43, 44, 45, 46, 47, 48, 49, 50, 51, 52, 53, 54, 64, 65, 66, 67] (by decide +kernel) (by decide +kernel)
set_option maxRecDepth 20000 in
theorem gX3_add_X2_clashes : GoodIn wsX3_add (wsV RX3 58 RX2 yX2_clashes wsX2_clashes) := goodIn_app (goodIn_of _ (by decide +kernel)) ggX3_add_X2_clashes
set_option maxRecDepth 20000 in
theorem ggX3_add_X2_keep : GoodIn wsX3_add wsX2_keep := goodIn_r _ [58, 16, 59, 64, 65, 66, 67] (by decide +kernel) (by decide +kernel)
set_option maxRecDepth 20000 in
theorem gX3_add_X2_keep : GoodIn wsX3_add (wsV RX3 62 RX2 yX2_keep wsX2_keep) := goodIn_app (goodIn_of _ (by decide +kernel)) ggX3_add_X2_keep
theorem dX3_add_0 : decode cX3_add 0 = .ok (.iload_n 1, 1) := by decide +kernel
theorem dX3_add_1 : decode cX3_add 1 = .ok (.iload_n 2, 1) := by decide +kernel
theorem dX3_add_2 : decode cX3_add 2 = .ok (.invokestatic 32, 3) := by decide +kernel
theorem dX3_add_5 : decode cX3_add 5 = .ok (.iload_n 3, 1) := by decide +kernel
theorem dX3_add_6 : decode cX3_add 6 = .ok (.iload 4, 2) := by decide +kernel
theorem dX3_add_8 : decode cX3_add 8 = .ok (.invokestatic 32, 3) := by decide +kernel
theorem dX3_add_11 : decode cX3_add 11 = .ok (.iload_n 1, 1) := by decide +kernel
theorem dX3_add_12 : decode cX3_add 12 = .ok (.iload_n 3, 1) := by decide +kernel
theorem dX3_add_13 : decode cX3_add 13 = .ok (.if_icmp .ne 19, 3) := by decide +kernel
theorem dX3_add_16 : decode cX3_add 16 = .ok (.iload_n 2, 1) := by decide +kernel
theorem dX3_add_17 : decode cX3_add 17 = .ok (.iload 4, 2) := by decide +kernel
theorem dX3_add_19 : decode cX3_add 19 = .ok (.if_icmp .ne 13, 3) := by decide +kernel
theorem dX3_add_22 : decode cX3_add 22 = .ok (.new 36, 3) := by decide +kernel
theorem dX3_add_25 : decode cX3_add 25 = .ok (.dup, 1) := by decide +kernel
theorem dX3_add_26 : decode cX3_add 26 = .ok (.ldc 38, 2) := by decide +kernel
theorem dX3_add_28 : decode cX3_add 28 = .ok (.invokespecial 40, 3) := by decide +kernel
theorem dX3_add_31 : decode cX3_add 31 = .ok (.athrow, 1) := by decide +kernel
theorem dX3_add_32 : decode cX3_add 32 = .ok (.aload_n 0, 1) := by decide +kernel
theorem dX3_add_33 : decode cX3_add 33 = .ok (.getfield 27, 3) := by decide +kernel
theorem dX3_add_36 : decode cX3_add 36 = .ok (.invokevirtual 43, 3) := by decide +kernel
theorem dX3_add_39 : decode cX3_add 39 = .ok (.istore 5, 2) := by decide +kernel
theorem dX3_add_41 : decode cX3_add 41 = .ok (.iload 5, 2) := by decide +kernel
theorem dX3_add_43 : decode cX3_add 43 = .ok (.iconst (-1), 1) := by decide +kernel
theorem dX3_add_44 : decode cX3_add 44 = .ok (.if_icmp .ne 13, 3) := by decide +kernel
theorem dX3_add_47 : decode cX3_add 47 = .ok (.new 49, 3) := by decide +kernel
theorem dX3_add_50 : decode cX3_add 50 = .ok (.dup, 1) := by decide +kernel
theorem dX3_add_51 : decode cX3_add 51 = .ok (.ldc 51, 2) := by decide +kernel
theorem dX3_add_53 : decode cX3_add 53 = .ok (.invokespecial 53, 3) := by decide +kernel
theorem dX3_add_56 : decode cX3_add 56 = .ok (.athrow, 1) := by decide +kernel
theorem dX3_add_57 : decode cX3_add 57 = .ok (.aload_n 0, 1) := by decide +kernel
theorem dX3_add_58 : decode cX3_add 58 = .ok (.getfield 27, 3) := by decide +kernel
theorem dX3_add_61 : decode cX3_add 61 = .ok (.iload 5, 2) := by decide +kernel
theorem dX3_add_63 : decode cX3_add 63 = .ok (.iload_n 1, 1) := by decide +kernel
theorem dX3_add_64 : decode cX3_add 64 = .ok (.iload_n 2, 1) := by decide +kernel
theorem dX3_add_65 : decode cX3_add 65 = .ok (.iload_n 3, 1) := by decide +kernel
theorem dX3_add_66 : decode cX3_add 66 = .ok (.iload 4, 2) := by decide +kernel
theorem dX3_add_68 : decode cX3_add 68 = .ok (.invokevirtual 54, 3) := by decide +kernel
theorem dX3_add_71 : decode cX3_add 71 = .ok (.aload_n 0, 1) := by decide +kernel
theorem dX3_add_72 : decode cX3_add 72 = .ok (.getfield 27, 3) := by decide +kernel
theorem dX3_add_75 : decode cX3_add 75 = .ok (.iload 5, 2) := by decide +kernel
theorem dX3_add_77 : decode cX3_add 77 = .ok (.invokevirtual 58, 3) := by decide +kernel
theorem dX3_add_80 : decode cX3_add 80 = .ok (.ifCond .eq 5, 3) := by decide +kernel
theorem dX3_add_83 : decode cX3_add 83 = .ok (.iconst (-1), 1) := by decide +kernel
theorem dX3_add_84 : decode cX3_add 84 = .ok (.ireturn, 1) := by decide +kernel
theorem dX3_add_85 : decode cX3_add 85 = .ok (.aload_n 0, 1) := by decide +kernel
theorem dX3_add_86 : decode cX3_add 86 = .ok (.getfield 27, 3) := by decide +kernel
theorem dX3_add_89 : decode cX3_add 89 = .ok (.iload 5, 2) := by decide +kernel
theorem dX3_add_91 : decode cX3_add 91 = .ok (.invokevirtual 62, 3) := by decide +kernel
theorem dX3_add_94 : decode cX3_add 94 = .ok (.aload_n 0, 1) := by decide +kernel
theorem dX3_add_95 : decode cX3_add 95 = .ok (.iconst 1, 1) := by decide +kernel
theorem dX3_add_96 : decode cX3_add 96 = .ok (.putfield 28, 3) := by decide +kernel
theorem dX3_add_99 : decode cX3_add 99 = .ok (.iload 5, 2) := by decide +kernel
theorem dX3_add_101 : decode cX3_add 101 = .ok (.ireturn, 1) := by decide +kernel
set_option maxRecDepth 20000 in
theorem ggX3_remove_X2_has : GoodIn wsX3_remove wsX2_has := goodIn_r _ [7, 8, 18, 19, 20, 21] (by decide +kernel) (by decide +kernel)
set_option maxRecDepth 20000 in
theorem gX3_remove_X2_has : GoodIn wsX3_remove (wsV RX3 66 RX2 yX2_has wsX2_has) := goodIn_app (goodIn_of _ (by decide +kernel)) ggX3_remove_X2_has
set_option maxRecDepth 20000 in
theorem ggX3_remove_X2_drop : GoodIn wsX3_remove wsX2_drop := goodIn_r _ [12, 8, 13, 18, 19, 20, 21] (by decide +kernel) (by decide +kernel)
set_option maxRecDepth 20000 in
theorem gX3_remove_X2_drop : GoodIn wsX3_remove (wsV RX3 69 RX2 yX2_drop wsX2_drop) := goodIn_app (goodIn_of _ (by decide +kernel)) ggX3_remove_X2_drop
theorem dX3_remove_0 : decode cX3_remove 0 = .ok (.aload_n 0, 1) := by decide +kernel
theorem dX3_remove_1 : decode cX3_remove 1 = .ok (.getfield 27, 3) := by decide +kernel
theorem dX3_remove_4 : decode cX3_remove 4 = .ok (.iload_n 1, 1) := by decide +kernel
theorem dX3_remove_5 : decode cX3_remove 5 = .ok (.invokevirtual 66, 3) := by decide +kernel
theorem dX3_remove_8 : decode cX3_remove 8 = .ok (.ifCond .ne 5, 3) := by decide +kernel
theorem dX3_remove_11 : decode cX3_remove 11 = .ok (.iconst 0, 1) := by decide +kernel
theorem dX3_remove_12 : decode cX3_remove 12 = .ok (.ireturn, 1) := by decide +kernel
theorem dX3_remove_13 : decode cX3_remove 13 = .ok (.aload_n 0, 1) := by decide +kernel
theorem dX3_remove_14 : decode cX3_remove 14 = .ok (.getfield 27, 3) := by decide +kernel
theorem dX3_remove_17 : decode cX3_remove 17 = .ok (.iload_n 1, 1) := by decide +kernel
theorem dX3_remove_18 : decode cX3_remove 18 = .ok (.invokevirtual 69, 3) := by decide +kernel
theorem dX3_remove_21 : decode cX3_remove 21 = .ok (.aload_n 0, 1) := by decide +kernel
theorem dX3_remove_22 : decode cX3_remove 22 = .ok (.iconst 1, 1) := by decide +kernel
theorem dX3_remove_23 : decode cX3_remove 23 = .ok (.putfield 28, 3) := by decide +kernel
theorem dX3_remove_26 : decode cX3_remove 26 = .ok (.iconst 1, 1) := by decide +kernel
theorem dX3_remove_27 : decode cX3_remove 27 = .ok (.ireturn, 1) := by decide +kernel
set_option maxRecDepth 20000 in
theorem ggX3_clear_X2_dropAll : GoodIn wsX3_clear wsX2_dropAll := goodIn_r _ [8, 9, 10, 15, 16, 17, 18] (by decide +kernel) (by decide +kernel)
set_option maxRecDepth 20000 in
theorem gX3_clear_X2_dropAll : GoodIn wsX3_clear (wsV RX3 76 RX2 yX2_dropAll wsX2_dropAll) := goodIn_app (goodIn_of _ (by decide +kernel)) ggX3_clear_X2_dropAll
theorem dX3_clear_0 : decode cX3_clear 0 = .ok (.aload_n 0, 1) := by decide +kernel
theorem dX3_clear_1 : decode cX3_clear 1 = .ok (.getfield 27, 3) := by decide +kernel
theorem dX3_clear_4 : decode cX3_clear 4 = .ok (.getfield 72, 3) := by decide +kernel
theorem dX3_clear_7 : decode cX3_clear 7 = .ok (.istore_n 1, 1) := by decide +kernel
theorem dX3_clear_8 : decode cX3_clear 8 = .ok (.aload_n 0, 1) := by decide +kernel
theorem dX3_clear_9 : decode cX3_clear 9 = .ok (.getfield 27, 3) := by decide +kernel
theorem dX3_clear_12 : decode cX3_clear 12 = .ok (.invokevirtual 76, 3) := by decide +kernel
theorem dX3_clear_15 : decode cX3_clear 15 = .ok (.aload_n 0, 1) := by decide +kernel
theorem dX3_clear_16 : decode cX3_clear 16 = .ok (.iconst 1, 1) := by decide +kernel
theorem dX3_clear_17 : decode cX3_clear 17 = .ok (.putfield 28, 3) := by decide +kernel
theorem dX3_clear_20 : decode cX3_clear 20 = .ok (.iload_n 1, 1) := by decide +kernel
theorem dX3_clear_21 : decode cX3_clear 21 = .ok (.ireturn, 1) := by decide +kernel
set_option maxRecDepth 20000 in
theorem ggX3_count_X3_refresh : GoodIn wsX3_count wsX3_refresh := goodIn_r _ [12, 13, 3, 4, 14, 15, 16, 17, 18, 19, 20, 21, 22, 23, 24, 25, 26, 27, 28, 29, 30, 31, 32, 33, 34, 35, 36, 37, 38, 39, 40, 41, 42, 43, 44, 45, 46, 47, 48, 49, 50, 51, 52, 53, 54, 55, 56, 57, 58, 59, 60, 61, 62, 63, 64, 65, 66, 67, 68, 69, 70, 71, 72, 73, 74, 75, 76, 77, 78, 79, 80, 81, 82, 83, 84, 85, 86, 87, 88, 89, 90, 91, 92, 93, 94, 95, 96, 97, 98, 99, 100, 101, 102, 103, 104, 105, 106, 107, 108, 109, 110, 111, 112, 113, 114, 115, 116, 117, 118, 119, 120, 121, 122, 123, 124, 125, 126, 127, 128, 129, 130, 131, 132, 133, 134, 135, 136, 137, 138, 139, 140, 141, 142, 143, 144, 145, 146, 147, 148, 149, 150, 151, 160, 161, 162, 163, 176, 177, 178, 179, 180, 181, 182, 183, 184, 185, 186, 164, 165, 166, 167, 168, 169, 170, 171, 172, 173, 174, 175] (by decide +kernel) (by decide +kernel)
set_option maxRecDepth 20000 in
theorem gX3_count_X3_refresh : GoodIn wsX3_count (wsV RX3 79 RX3 yX3_refresh wsX3_refresh) := goodIn_app (goodIn_of _ (by decide +kernel)) ggX3_count_X3_refresh
set_option maxRecDepth 20000 in
theorem ggX3_count_X1_corners : GoodIn wsX3_count wsX1_corners := goodIn_r _ [155, 20, 21, 26, 176, 177, 178, 179, 180, 181, 182, 183, 184, 185, 186, 164, 165, 166, 167] (by decide +kernel) (by decide +kernel)
set_option maxRecDepth 20000 in
theorem gX3_count_X1_corners : GoodIn wsX3_count (wsV RX3 82 RX1 yX1_corners wsX1_corners) := goodIn_app (goodIn_of _ (by decide +kernel)) ggX3_count_X1_corners
set_option maxRecDepth 20000 in
theorem ggX3_count_X0_bridges : GoodIn wsX3_count wsX0_bridges := goodIn_r _ [159, 104, 139, 141, 168, 169, 170, 171, 172, 173, 174, 175, 164, 165, 166, 167] (by decide +kernel) (by decide +kernel)
set_option maxRecDepth 20000 in
theorem gX3_count_X0_bridges : GoodIn wsX3_count (wsV RX3 89 RX0 yX0_bridges wsX0_bridges) := goodIn_app (goodIn_of _ (by decide +kernel)) ggX3_count_X0_bridges
theorem dX3_count_0 : decode cX3_count 0 = .ok (.aload_n 0, 1) := by decide +kernel
theorem dX3_count_1 : decode cX3_count 1 = .ok (.invokevirtual 79, 3) := by decide +kernel
theorem dX3_count_4 : decode cX3_count 4 = .ok (.iload_n 1, 1) := by decide +kernel
theorem dX3_count_5 : decode cX3_count 5 = .ok (.tableswitch 87 0 5 #[39, 47, 55, 63, 71, 79], 39) := by decide +kernel
theorem dX3_count_44 : decode cX3_count 44 = .ok (.aload_n 0, 1) := by decide +kernel
theorem dX3_count_45 : decode cX3_count 45 = .ok (.getfield 27, 3) := by decide +kernel
theorem dX3_count_48 : decode cX3_count 48 = .ok (.getfield 72, 3) := by decide +kernel
theorem dX3_count_51 : decode cX3_count 51 = .ok (.ireturn, 1) := by decide +kernel
theorem dX3_count_52 : decode cX3_count 52 = .ok (.aload_n 0, 1) := by decide +kernel
theorem dX3_count_53 : decode cX3_count 53 = .ok (.getfield 20, 3) := by decide +kernel
theorem dX3_count_56 : decode cX3_count 56 = .ok (.invokevirtual 82, 3) := by decide +kernel
theorem dX3_count_59 : decode cX3_count 59 = .ok (.ireturn, 1) := by decide +kernel
theorem dX3_count_60 : decode cX3_count 60 = .ok (.aload_n 0, 1) := by decide +kernel
theorem dX3_count_61 : decode cX3_count 61 = .ok (.getfield 12, 3) := by decide +kernel
theorem dX3_count_64 : decode cX3_count 64 = .ok (.getfield 85, 3) := by decide +kernel
theorem dX3_count_67 : decode cX3_count 67 = .ok (.ireturn, 1) := by decide +kernel
theorem dX3_count_68 : decode cX3_count 68 = .ok (.aload_n 0, 1) := by decide +kernel
theorem dX3_count_69 : decode cX3_count 69 = .ok (.getfield 20, 3) := by decide +kernel
theorem dX3_count_72 : decode cX3_count 72 = .ok (.getfield 86, 3) := by decide +kernel
theorem dX3_count_75 : decode cX3_count 75 = .ok (.ireturn, 1) := by decide +kernel
theorem dX3_count_76 : decode cX3_count 76 = .ok (.aload_n 0, 1) := by decide +kernel
theorem dX3_count_77 : decode cX3_count 77 = .ok (.getfield 12, 3) := by decide +kernel
theorem dX3_count_80 : decode cX3_count 80 = .ok (.invokevirtual 89, 3) := by decide +kernel
theorem dX3_count_83 : decode cX3_count 83 = .ok (.ireturn, 1) := by decide +kernel
theorem dX3_count_84 : decode cX3_count 84 = .ok (.aload_n 0, 1) := by decide +kernel
theorem dX3_count_85 : decode cX3_count 85 = .ok (.getfield 20, 3) := by decide +kernel
theorem dX3_count_88 : decode cX3_count 88 = .ok (.getfield 92, 3) := by decide +kernel
theorem dX3_count_91 : decode cX3_count 91 = .ok (.ireturn, 1) := by decide +kernel
theorem dX3_count_92 : decode cX3_count 92 = .ok (.iconst (-1), 1) := by decide +kernel
theorem dX3_count_93 : decode cX3_count 93 = .ok (.ireturn, 1) := by decide +kernel
set_option maxRecDepth 20000 in
theorem ggX3_begins_X3_requireHalf : GoodIn wsX3_begins wsX3_requireHalf := goodIn_ca (goodIn_r _ [8, 9, 10, 1, 11, 12, 13, 14, 15, 16, 17, 18, 19, 20, 21, 22, 23, 24] (by decide +kernel) (by decide +kernel)) (goodIn_sub (fun _ h => List.mem_cons_of_mem _ (List.mem_append_right _ h)) (by decide +kernel))
set_option maxRecDepth 20000 in
theorem gX3_begins_X3_requireHalf : GoodIn wsX3_begins (wsV RX3 93 RX3 yX3_requireHalf wsX3_requireHalf) := goodIn_app (goodIn_of _ (by decide +kernel)) ggX3_begins_X3_requireHalf
theorem dX3_begins_0 : decode cX3_begins 0 = .ok (.aload_n 0, 1) := by decide +kernel
theorem dX3_begins_1 : decode cX3_begins 1 = .ok (.iload_n 1, 1) := by decide +kernel
theorem dX3_begins_2 : decode cX3_begins 2 = .ok (.invokevirtual 93, 3) := by decide +kernel
theorem dX3_begins_5 : decode cX3_begins 5 = .ok (.iload_n 2, 1) := by decide +kernel
theorem dX3_begins_6 : decode cX3_begins 6 = .ok (.ifCond .eq 15, 3) := by decide +kernel
theorem dX3_begins_9 : decode cX3_begins 9 = .ok (.aload_n 0, 1) := by decide +kernel
theorem dX3_begins_10 : decode cX3_begins 10 = .ok (.getfield 27, 3) := by decide +kernel
theorem dX3_begins_13 : decode cX3_begins 13 = .ok (.getfield 96, 3) := by decide +kernel
theorem dX3_begins_16 : decode cX3_begins 16 = .ok (.iload_n 1, 1) := by decide +kernel
theorem dX3_begins_17 : decode cX3_begins 17 = .ok (.iaload, 1) := by decide +kernel
theorem dX3_begins_18 : decode cX3_begins 18 = .ok (.goto 12, 3) := by decide +kernel
theorem dX3_begins_21 : decode cX3_begins 21 = .ok (.aload_n 0, 1) := by decide +kernel
theorem dX3_begins_22 : decode cX3_begins 22 = .ok (.getfield 27, 3) := by decide +kernel
theorem dX3_begins_25 : decode cX3_begins 25 = .ok (.getfield 100, 3) := by decide +kernel
theorem dX3_begins_28 : decode cX3_begins 28 = .ok (.iload_n 1, 1) := by decide +kernel
theorem dX3_begins_29 : decode cX3_begins 29 = .ok (.iaload, 1) := by decide +kernel
theorem dX3_begins_30 : decode cX3_begins 30 = .ok (.ireturn, 1) := by decide +kernel
set_option maxRecDepth 20000 in
theorem ggX3_next_X3_requireHalf : GoodIn wsX3_next wsX3_requireHalf := goodIn_ca (goodIn_r _ [7, 8, 9, 10, 11, 12, 13, 14, 15, 16, 159, 160, 161, 162, 174, 175, 176, 177] (by decide +kernel) (by decide +kernel)) (goodIn_sub (fun _ h => List.mem_cons_of_mem _ (List.mem_append_right _ h)) (by decide +kernel))
set_option maxRecDepth 20000 in
theorem gX3_next_X3_requireHalf : GoodIn wsX3_next (wsV RX3 93 RX3 yX3_requireHalf wsX3_requireHalf) := goodIn_app (goodIn_of _ (by decide +kernel)) ggX3_next_X3_requireHalf
set_option maxRecDepth 20000 in
theorem ggX3_next_X3_refresh : GoodIn wsX3_next wsX3_refresh := goodIn_r _ [20, 21, 1, 22, 23, 24, 25, 26, 27, 28, 29, 30, 31, 32, 33, 34, 35, 36, 37, 38, 39, 40, 14, 41, 16, 42, 43, 44, 45, 46, 47, 48, 49, 50, 51, 52, 53, 54, 55, 56, 57, 58, 59, 60, 61, 62, 63, 64, 65, 66, 67, 68, 69, 70, 71, 72, 73, 74, 75, 76, 77, 78, 79, 80, 81, 82, 83, 84, 85, 86, 87, 88, 89, 90, 91, 92, 93, 94, 95, 96, 97, 98, 99, 100, 101, 102, 103, 104, 105, 106, 107, 108, 109, 110, 111, 112, 113, 114, 115, 116, 117, 118, 119, 120, 121, 122, 123, 124, 125, 126, 127, 128, 129, 130, 131, 132, 133, 134, 135, 136, 137, 138, 139, 140, 141, 142, 143, 144, 145, 146, 147, 148, 149, 150, 151, 152, 153, 154, 155, 156, 157, 158, 159, 160, 161, 162, 163, 164, 165, 166, 167, 168, 169, 170, 171, 172, 173, 174, 175, 176, 177, 178, 179, 180, 181, 182, 183, 184, 185] (by decide +kernel) (by decide +kernel)
set_option maxRecDepth 20000 in
theorem gX3_next_X3_refresh : GoodIn wsX3_next (wsV RX3 79 RX3 yX3_refresh wsX3_refresh) := goodIn_app (goodIn_of _ (by decide +kernel)) ggX3_next_X3_refresh
theorem dX3_next_0 : decode cX3_next 0 = .ok (.aload_n 0, 1) := by decide +kernel
theorem dX3_next_1 : decode cX3_next 1 = .ok (.iload_n 1, 1) := by decide +kernel
theorem dX3_next_2 : decode cX3_next 2 = .ok (.invokevirtual 93, 3) := by decide +kernel
theorem dX3_next_5 : decode cX3_next 5 = .ok (.aload_n 0, 1) := by decide +kernel
theorem dX3_next_6 : decode cX3_next 6 = .ok (.invokevirtual 79, 3) := by decide +kernel
theorem dX3_next_9 : decode cX3_next 9 = .ok (.aload_n 0, 1) := by decide +kernel
theorem dX3_next_10 : decode cX3_next 10 = .ok (.getfield 20, 3) := by decide +kernel
theorem dX3_next_13 : decode cX3_next 13 = .ok (.getfield 103, 3) := by decide +kernel
theorem dX3_next_16 : decode cX3_next 16 = .ok (.iload_n 1, 1) := by decide +kernel
theorem dX3_next_17 : decode cX3_next 17 = .ok (.iaload, 1) := by decide +kernel
theorem dX3_next_18 : decode cX3_next 18 = .ok (.ireturn, 1) := by decide +kernel
set_option maxRecDepth 20000 in
theorem ggX3_face_X3_requireHalf : GoodIn wsX3_face wsX3_requireHalf := goodIn_ca (goodIn_r _ [7, 8, 9, 10, 11, 12, 13, 14, 15, 16, 159, 160, 161, 162, 171, 172, 173, 174] (by decide +kernel) (by decide +kernel)) (goodIn_sub (fun _ h => List.mem_cons_of_mem _ (List.mem_append_right _ h)) (by decide +kernel))
set_option maxRecDepth 20000 in
theorem gX3_face_X3_requireHalf : GoodIn wsX3_face (wsV RX3 93 RX3 yX3_requireHalf wsX3_requireHalf) := goodIn_app (goodIn_of _ (by decide +kernel)) ggX3_face_X3_requireHalf
set_option maxRecDepth 20000 in
theorem ggX3_face_X3_refresh : GoodIn wsX3_face wsX3_refresh := goodIn_r _ [20, 21, 22, 1, 23, 24, 25, 26, 27, 28, 29, 30, 31, 32, 33, 34, 35, 36, 37, 38, 39, 40, 14, 41, 16, 42, 43, 44, 45, 46, 47, 48, 49, 50, 51, 52, 53, 54, 55, 56, 57, 58, 59, 60, 61, 62, 63, 64, 65, 66, 67, 68, 69, 70, 71, 72, 73, 74, 75, 76, 77, 78, 79, 80, 81, 82, 83, 84, 85, 86, 87, 88, 89, 90, 91, 92, 93, 94, 95, 96, 97, 98, 99, 100, 101, 102, 103, 104, 105, 106, 107, 108, 109, 110, 111, 112, 113, 114, 115, 116, 117, 118, 119, 120, 121, 122, 123, 124, 125, 126, 127, 128, 129, 130, 131, 132, 133, 134, 135, 136, 137, 138, 139, 140, 141, 142, 143, 144, 145, 146, 147, 148, 149, 150, 151, 152, 153, 154, 155, 156, 157, 158, 159, 160, 161, 162, 175, 176, 177, 178, 179, 180, 181, 182, 183, 184, 185, 171, 172, 173, 174, 163, 164, 165, 166, 167, 168, 169, 170] (by decide +kernel) (by decide +kernel)
set_option maxRecDepth 20000 in
theorem gX3_face_X3_refresh : GoodIn wsX3_face (wsV RX3 79 RX3 yX3_refresh wsX3_refresh) := goodIn_app (goodIn_of _ (by decide +kernel)) ggX3_face_X3_refresh
theorem dX3_face_0 : decode cX3_face 0 = .ok (.aload_n 0, 1) := by decide +kernel
theorem dX3_face_1 : decode cX3_face 1 = .ok (.iload_n 1, 1) := by decide +kernel
theorem dX3_face_2 : decode cX3_face 2 = .ok (.invokevirtual 93, 3) := by decide +kernel
theorem dX3_face_5 : decode cX3_face 5 = .ok (.aload_n 0, 1) := by decide +kernel
theorem dX3_face_6 : decode cX3_face 6 = .ok (.invokevirtual 79, 3) := by decide +kernel
theorem dX3_face_9 : decode cX3_face 9 = .ok (.aload_n 0, 1) := by decide +kernel
theorem dX3_face_10 : decode cX3_face 10 = .ok (.getfield 12, 3) := by decide +kernel
theorem dX3_face_13 : decode cX3_face 13 = .ok (.getfield 106, 3) := by decide +kernel
theorem dX3_face_16 : decode cX3_face 16 = .ok (.iload_n 1, 1) := by decide +kernel
theorem dX3_face_17 : decode cX3_face 17 = .ok (.iaload, 1) := by decide +kernel
theorem dX3_face_18 : decode cX3_face 18 = .ok (.ireturn, 1) := by decide +kernel
set_option maxRecDepth 20000 in
theorem ggX3_piece_X3_requireHalf : GoodIn wsX3_piece wsX3_requireHalf := goodIn_ca (goodIn_r _ [7, 8, 9, 10, 11, 12, 13, 14, 15, 16, 159, 160, 161, 162, 174, 175, 176, 177] (by decide +kernel) (by decide +kernel)) (goodIn_sub (fun _ h => List.mem_cons_of_mem _ (List.mem_append_right _ h)) (by decide +kernel))
set_option maxRecDepth 20000 in
theorem gX3_piece_X3_requireHalf : GoodIn wsX3_piece (wsV RX3 93 RX3 yX3_requireHalf wsX3_requireHalf) := goodIn_app (goodIn_of _ (by decide +kernel)) ggX3_piece_X3_requireHalf
set_option maxRecDepth 20000 in
theorem ggX3_piece_X3_refresh : GoodIn wsX3_piece wsX3_refresh := goodIn_r _ [20, 21, 1, 22, 23, 24, 25, 26, 27, 28, 29, 30, 31, 32, 33, 34, 35, 36, 37, 38, 39, 40, 14, 41, 16, 42, 43, 44, 45, 46, 47, 48, 49, 50, 51, 52, 53, 54, 55, 56, 57, 58, 59, 60, 61, 62, 63, 64, 65, 66, 67, 68, 69, 70, 71, 72, 73, 74, 75, 76, 77, 78, 79, 80, 81, 82, 83, 84, 85, 86, 87, 88, 89, 90, 91, 92, 93, 94, 95, 96, 97, 98, 99, 100, 101, 102, 103, 104, 105, 106, 107, 108, 109, 110, 111, 112, 113, 114, 115, 116, 117, 118, 119, 120, 121, 122, 123, 124, 125, 126, 127, 128, 129, 130, 131, 132, 133, 134, 135, 136, 137, 138, 139, 140, 141, 142, 143, 144, 145, 146, 147, 148, 149, 150, 151, 152, 153, 154, 155, 156, 157, 158, 159, 160, 161, 162, 163, 164, 165, 166, 167, 168, 169, 170, 171, 172, 173, 174, 175, 176, 177, 178, 179, 180, 181, 182, 183, 184, 185] (by decide +kernel) (by decide +kernel)
set_option maxRecDepth 20000 in
theorem gX3_piece_X3_refresh : GoodIn wsX3_piece (wsV RX3 79 RX3 yX3_refresh wsX3_refresh) := goodIn_app (goodIn_of _ (by decide +kernel)) ggX3_piece_X3_refresh
theorem dX3_piece_0 : decode cX3_piece 0 = .ok (.aload_n 0, 1) := by decide +kernel
theorem dX3_piece_1 : decode cX3_piece 1 = .ok (.iload_n 1, 1) := by decide +kernel
theorem dX3_piece_2 : decode cX3_piece 2 = .ok (.invokevirtual 93, 3) := by decide +kernel
theorem dX3_piece_5 : decode cX3_piece 5 = .ok (.aload_n 0, 1) := by decide +kernel
theorem dX3_piece_6 : decode cX3_piece 6 = .ok (.invokevirtual 79, 3) := by decide +kernel
theorem dX3_piece_9 : decode cX3_piece 9 = .ok (.aload_n 0, 1) := by decide +kernel
theorem dX3_piece_10 : decode cX3_piece 10 = .ok (.getfield 20, 3) := by decide +kernel
theorem dX3_piece_13 : decode cX3_piece 13 = .ok (.getfield 109, 3) := by decide +kernel
theorem dX3_piece_16 : decode cX3_piece 16 = .ok (.iload_n 1, 1) := by decide +kernel
theorem dX3_piece_17 : decode cX3_piece 17 = .ok (.iconst 1, 1) := by decide +kernel
theorem dX3_piece_18 : decode cX3_piece 18 = .ok (.ishr, 1) := by decide +kernel
theorem dX3_piece_19 : decode cX3_piece 19 = .ok (.iaload, 1) := by decide +kernel
theorem dX3_piece_20 : decode cX3_piece 20 = .ok (.ireturn, 1) := by decide +kernel
set_option maxRecDepth 20000 in
theorem ggX3_around_X3_refresh : GoodIn wsX3_around wsX3_refresh := goodIn_r _ [11, 12, 3, 5, 13, 14, 15, 16, 17, 18, 19, 20, 21, 22, 23, 24, 25, 26, 27, 28, 29, 30, 31, 32, 33, 34, 35, 36, 37, 38, 39, 40, 41, 42, 43, 44, 45, 46, 47, 48, 49, 50, 51, 52, 53, 54, 55, 56, 57, 58, 59, 60, 61, 62, 63, 64, 65, 66, 67, 68, 69, 70, 71, 72, 73, 74, 75, 76, 77, 78, 79, 80, 81, 82, 83, 84, 85, 86, 87, 88, 89, 90, 91, 92, 93, 94, 95, 96, 97, 98, 99, 100, 101, 102, 103, 104, 105, 106, 107, 108, 109, 110, 111, 112, 113, 114, 115, 116, 117, 118, 119, 120, 121, 122, 123, 124, 125, 126, 127, 128, 129, 130, 131, 132, 133, 134, 135, 136, 137, 138, 139, 140, 141, 142, 143, 144, 145, 146, 147, 148, 149, 150, 151, 152, 153, 154, 155, 156, 157, 158, 159, 160, 161, 162, 163, 164, 165, 174, 175, 176, 177, 166, 167, 168, 169, 170, 171, 172, 173] (by decide +kernel) (by decide +kernel)
set_option maxRecDepth 20000 in
theorem gX3_around_X3_refresh : GoodIn wsX3_around (wsV RX3 79 RX3 yX3_refresh wsX3_refresh) := goodIn_app (goodIn_of _ (by decide +kernel)) ggX3_around_X3_refresh
theorem dX3_around_0 : decode cX3_around 0 = .ok (.aload_n 0, 1) := by decide +kernel
theorem dX3_around_1 : decode cX3_around 1 = .ok (.invokevirtual 79, 3) := by decide +kernel
theorem dX3_around_4 : decode cX3_around 4 = .ok (.iload_n 1, 1) := by decide +kernel
theorem dX3_around_5 : decode cX3_around 5 = .ok (.ifCond .lt 14, 3) := by decide +kernel
theorem dX3_around_8 : decode cX3_around 8 = .ok (.iload_n 1, 1) := by decide +kernel
theorem dX3_around_9 : decode cX3_around 9 = .ok (.aload_n 0, 1) := by decide +kernel
theorem dX3_around_10 : decode cX3_around 10 = .ok (.getfield 20, 3) := by decide +kernel
theorem dX3_around_13 : decode cX3_around 13 = .ok (.getfield 86, 3) := by decide +kernel
theorem dX3_around_16 : decode cX3_around 16 = .ok (.if_icmp .lt 13, 3) := by decide +kernel
theorem dX3_around_19 : decode cX3_around 19 = .ok (.new 112, 3) := by decide +kernel
theorem dX3_around_22 : decode cX3_around 22 = .ok (.dup, 1) := by decide +kernel
theorem dX3_around_23 : decode cX3_around 23 = .ok (.ldc 114, 2) := by decide +kernel
theorem dX3_around_25 : decode cX3_around 25 = .ok (.invokespecial 116, 3) := by decide +kernel
theorem dX3_around_28 : decode cX3_around 28 = .ok (.athrow, 1) := by decide +kernel
theorem dX3_around_29 : decode cX3_around 29 = .ok (.aload_n 0, 1) := by decide +kernel
theorem dX3_around_30 : decode cX3_around 30 = .ok (.getfield 12, 3) := by decide +kernel
theorem dX3_around_33 : decode cX3_around 33 = .ok (.getfield 117, 3) := by decide +kernel
theorem dX3_around_36 : decode cX3_around 36 = .ok (.iload_n 1, 1) := by decide +kernel
theorem dX3_around_37 : decode cX3_around 37 = .ok (.iaload, 1) := by decide +kernel
theorem dX3_around_38 : decode cX3_around 38 = .ok (.ireturn, 1) := by decide +kernel
set_option maxRecDepth 20000 in
theorem ggX3_area_X3_refresh : GoodIn wsX3_area wsX3_refresh := goodIn_r _ [6, 7, 8, 1, 9, 10, 11, 12, 13, 14, 15, 16, 17, 18, 19, 20, 21, 22, 23, 24, 25, 26, 27, 28, 29, 30, 31, 32, 33, 34, 35, 36, 37, 38, 39, 40, 41, 42, 43, 44, 45, 46, 47, 48, 49, 50, 51, 52, 53, 54, 55, 56, 57, 58, 59, 60, 61, 62, 63, 64, 65, 66, 67, 68, 69, 70, 71, 72, 73, 74, 75, 76, 77, 78, 79, 80, 81, 82, 83, 84, 85, 86, 87, 88, 89, 90, 91, 92, 93, 94, 95, 96, 97, 98, 99, 100, 101, 102, 103, 104, 105, 106, 107, 108, 109, 110, 111, 112, 113, 114, 115, 116, 117, 118, 119, 120, 121, 122, 123, 124, 125, 126, 127, 128, 129, 130, 131, 132, 133, 134, 135, 136, 137, 138, 139, 140, 141, 142, 143, 144, 145, 146, 158, 159, 160, 161, 162, 163, 164, 165, 166, 167, 168, 169, 170, 171, 172, 173, 174, 175, 176, 177, 178, 179, 180, 181, 182, 183, 184] (by decide +kernel) (by decide +kernel)
set_option maxRecDepth 20000 in
theorem gX3_area_X3_refresh : GoodIn wsX3_area (wsV RX3 79 RX3 yX3_refresh wsX3_refresh) := goodIn_app (goodIn_of _ (by decide +kernel)) ggX3_area_X3_refresh
set_option maxRecDepth 20000 in
theorem ggX3_area_X3_requireFace : GoodIn wsX3_area wsX3_requireFace := goodIn_ca (goodIn_r _ [150, 151, 152, 1, 153, 158, 159, 160, 161, 177, 178, 179, 180, 181, 182, 183, 184] (by decide +kernel) (by decide +kernel)) (goodIn_sub (fun _ h => List.mem_cons_of_mem _ (List.mem_append_right _ h)) (by decide +kernel))
set_option maxRecDepth 20000 in
theorem gX3_area_X3_requireFace : GoodIn wsX3_area (wsV RX3 120 RX3 yX3_requireFace wsX3_requireFace) := goodIn_app (goodIn_of _ (by decide +kernel)) ggX3_area_X3_requireFace
set_option maxRecDepth 20000 in
theorem ggX3_area_X0_twiceArea : GoodIn wsX3_area wsX0_twiceArea := goodIn_r _ [157, 94, 95, 136, 96, 98, 177, 178, 179, 180, 181, 182, 183, 184, 162, 163, 164, 165, 166, 167, 168, 169, 170, 171, 172] (by decide +kernel) (by decide +kernel)
set_option maxRecDepth 20000 in
theorem gX3_area_X0_twiceArea : GoodIn wsX3_area (wsV RX3 123 RX0 yX0_twiceArea wsX0_twiceArea) := goodIn_app (goodIn_of _ (by decide +kernel)) ggX3_area_X0_twiceArea
theorem dX3_area_0 : decode cX3_area 0 = .ok (.aload_n 0, 1) := by decide +kernel
theorem dX3_area_1 : decode cX3_area 1 = .ok (.invokevirtual 79, 3) := by decide +kernel
theorem dX3_area_4 : decode cX3_area 4 = .ok (.aload_n 0, 1) := by decide +kernel
theorem dX3_area_5 : decode cX3_area 5 = .ok (.iload_n 1, 1) := by decide +kernel
theorem dX3_area_6 : decode cX3_area 6 = .ok (.invokevirtual 120, 3) := by decide +kernel
theorem dX3_area_9 : decode cX3_area 9 = .ok (.iload_n 1, 1) := by decide +kernel
theorem dX3_area_10 : decode cX3_area 10 = .ok (.ifCond .ne 7, 3) := by decide +kernel
theorem dX3_area_13 : decode cX3_area 13 = .ok (.iconst 0, 1) := by decide +kernel
theorem dX3_area_14 : decode cX3_area 14 = .ok (.goto 12, 3) := by decide +kernel
theorem dX3_area_17 : decode cX3_area 17 = .ok (.aload_n 0, 1) := by decide +kernel
theorem dX3_area_18 : decode cX3_area 18 = .ok (.getfield 12, 3) := by decide +kernel
theorem dX3_area_21 : decode cX3_area 21 = .ok (.iload_n 1, 1) := by decide +kernel
theorem dX3_area_22 : decode cX3_area 22 = .ok (.invokevirtual 123, 3) := by decide +kernel
theorem dX3_area_25 : decode cX3_area 25 = .ok (.l2i, 1) := by decide +kernel
theorem dX3_area_26 : decode cX3_area 26 = .ok (.ireturn, 1) := by decide +kernel
set_option maxRecDepth 20000 in
theorem ggX3_border_X3_refresh : GoodIn wsX3_border wsX3_refresh := goodIn_r _ [6, 7, 8, 1, 9, 10, 11, 12, 13, 14, 15, 16, 17, 18, 19, 20, 21, 22, 23, 24, 25, 26, 27, 28, 29, 30, 31, 32, 33, 34, 35, 36, 37, 38, 39, 40, 41, 42, 43, 44, 45, 46, 47, 48, 49, 50, 51, 52, 53, 54, 55, 56, 57, 58, 59, 60, 61, 62, 63, 64, 65, 66, 67, 68, 69, 70, 71, 72, 73, 74, 75, 76, 77, 78, 79, 80, 81, 82, 83, 84, 85, 86, 87, 88, 89, 90, 91, 92, 93, 94, 95, 96, 97, 98, 99, 100, 101, 102, 103, 104, 105, 106, 107, 108, 109, 110, 111, 112, 113, 114, 115, 116, 117, 118, 119, 120, 121, 122, 123, 124, 125, 126, 127, 128, 129, 130, 131, 132, 133, 134, 135, 136, 137, 138, 139, 140, 141, 142, 143, 144, 145, 146, 171, 172, 173, 174, 175, 176, 177, 178, 179, 180, 181, 182, 183, 184, 185, 186, 187, 188, 189, 190, 191, 192, 193, 194, 195, 196, 197] (by decide +kernel) (by decide +kernel)
set_option maxRecDepth 20000 in
theorem gX3_border_X3_refresh : GoodIn wsX3_border (wsV RX3 79 RX3 yX3_refresh wsX3_refresh) := goodIn_app (goodIn_of _ (by decide +kernel)) ggX3_border_X3_refresh
set_option maxRecDepth 20000 in
theorem ggX3_border_X3_requireFace : GoodIn wsX3_border wsX3_requireFace := goodIn_ca (goodIn_r _ [150, 151, 152, 1, 153, 171, 172, 173, 174, 190, 191, 192, 193, 194, 195, 196, 197] (by decide +kernel) (by decide +kernel)) (goodIn_sub (fun _ h => List.mem_cons_of_mem _ (List.mem_append_right _ h)) (by decide +kernel))
set_option maxRecDepth 20000 in
theorem gX3_border_X3_requireFace : GoodIn wsX3_border (wsV RX3 120 RX3 yX3_requireFace wsX3_requireFace) := goodIn_app (goodIn_of _ (by decide +kernel)) ggX3_border_X3_requireFace
set_option maxRecDepth 20000 in
theorem ggX3_border_X0_roundsOf : GoodIn wsX3_border wsX0_roundsOf := goodIn_r _ [157, 94, 95, 136, 96, 190, 191, 192, 193, 194, 195, 196, 197, 175, 176, 177, 178, 179, 180, 181, 182, 183, 184, 185] (by decide +kernel) (by decide +kernel)
set_option maxRecDepth 20000 in
theorem gX3_border_X0_roundsOf : GoodIn wsX3_border (wsV RX3 127 RX0 yX0_roundsOf wsX0_roundsOf) := goodIn_app (goodIn_of _ (by decide +kernel)) ggX3_border_X0_roundsOf
set_option maxRecDepth 20000 in
theorem ggX3_border_X0_halvesOf : GoodIn wsX3_border wsX0_halvesOf := goodIn_r _ [161, 99, 134, 136, 190, 191, 192, 193, 194, 195, 196, 197, 186, 187, 188, 189] (by decide +kernel) (by decide +kernel)
set_option maxRecDepth 20000 in
theorem gX3_border_X0_halvesOf : GoodIn wsX3_border (wsV RX3 131 RX0 yX0_halvesOf wsX0_halvesOf) := goodIn_app (goodIn_of _ (by decide +kernel)) ggX3_border_X0_halvesOf
set_option maxRecDepth 20000 in
theorem ggX3_border_X0_leastHalfOf : GoodIn wsX3_border wsX0_leastHalfOf := goodIn_r _ [165, 99, 134, 136, 190, 191, 192, 193, 194, 195, 196, 197, 186, 187, 188, 189] (by decide +kernel) (by decide +kernel)
set_option maxRecDepth 20000 in
theorem gX3_border_X0_leastHalfOf : GoodIn wsX3_border (wsV RX3 134 RX0 yX0_leastHalfOf wsX0_leastHalfOf) := goodIn_app (goodIn_of _ (by decide +kernel)) ggX3_border_X0_leastHalfOf
set_option maxRecDepth 20000 in
theorem ggX3_border_X0_piecesIn : GoodIn wsX3_border wsX0_piecesIn := goodIn_r _ [169, 94, 170, 146, 190, 191, 192, 193, 194, 195, 196, 197, 175, 176, 177, 178, 179, 180, 181, 182, 183, 184, 185] (by decide +kernel) (by decide +kernel)
set_option maxRecDepth 20000 in
theorem gX3_border_X0_piecesIn : GoodIn wsX3_border (wsV RX3 137 RX0 yX0_piecesIn wsX0_piecesIn) := goodIn_app (goodIn_of _ (by decide +kernel)) ggX3_border_X0_piecesIn
theorem dX3_border_0 : decode cX3_border 0 = .ok (.aload_n 0, 1) := by decide +kernel
theorem dX3_border_1 : decode cX3_border 1 = .ok (.invokevirtual 79, 3) := by decide +kernel
theorem dX3_border_4 : decode cX3_border 4 = .ok (.aload_n 0, 1) := by decide +kernel
theorem dX3_border_5 : decode cX3_border 5 = .ok (.iload_n 1, 1) := by decide +kernel
theorem dX3_border_6 : decode cX3_border 6 = .ok (.invokevirtual 120, 3) := by decide +kernel
theorem dX3_border_9 : decode cX3_border 9 = .ok (.iload_n 2, 1) := by decide +kernel
theorem dX3_border_10 : decode cX3_border 10 = .ok (.tableswitch 66 0 3 #[30, 39, 48, 57], 30) := by decide +kernel
theorem dX3_border_40 : decode cX3_border 40 = .ok (.aload_n 0, 1) := by decide +kernel
theorem dX3_border_41 : decode cX3_border 41 = .ok (.getfield 12, 3) := by decide +kernel
theorem dX3_border_44 : decode cX3_border 44 = .ok (.iload_n 1, 1) := by decide +kernel
theorem dX3_border_45 : decode cX3_border 45 = .ok (.invokevirtual 127, 3) := by decide +kernel
theorem dX3_border_48 : decode cX3_border 48 = .ok (.ireturn, 1) := by decide +kernel
theorem dX3_border_49 : decode cX3_border 49 = .ok (.aload_n 0, 1) := by decide +kernel
theorem dX3_border_50 : decode cX3_border 50 = .ok (.getfield 12, 3) := by decide +kernel
theorem dX3_border_53 : decode cX3_border 53 = .ok (.iload_n 1, 1) := by decide +kernel
theorem dX3_border_54 : decode cX3_border 54 = .ok (.invokevirtual 131, 3) := by decide +kernel
theorem dX3_border_57 : decode cX3_border 57 = .ok (.ireturn, 1) := by decide +kernel
theorem dX3_border_58 : decode cX3_border 58 = .ok (.aload_n 0, 1) := by decide +kernel
theorem dX3_border_59 : decode cX3_border 59 = .ok (.getfield 12, 3) := by decide +kernel
theorem dX3_border_62 : decode cX3_border 62 = .ok (.iload_n 1, 1) := by decide +kernel
theorem dX3_border_63 : decode cX3_border 63 = .ok (.invokevirtual 134, 3) := by decide +kernel
theorem dX3_border_66 : decode cX3_border 66 = .ok (.ireturn, 1) := by decide +kernel
theorem dX3_border_67 : decode cX3_border 67 = .ok (.aload_n 0, 1) := by decide +kernel
theorem dX3_border_68 : decode cX3_border 68 = .ok (.getfield 12, 3) := by decide +kernel
theorem dX3_border_71 : decode cX3_border 71 = .ok (.iload_n 1, 1) := by decide +kernel
theorem dX3_border_72 : decode cX3_border 72 = .ok (.invokevirtual 137, 3) := by decide +kernel
theorem dX3_border_75 : decode cX3_border 75 = .ok (.ireturn, 1) := by decide +kernel
theorem dX3_border_76 : decode cX3_border 76 = .ok (.iconst (-1), 1) := by decide +kernel
theorem dX3_border_77 : decode cX3_border 77 = .ok (.ireturn, 1) := by decide +kernel
set_option maxRecDepth 20000 in
theorem ggX3_locate_X3_requirePlace : GoodIn wsX3_locate wsX3_requirePlace := goodIn_ca (goodIn_r _ [7, 8, 9] (by decide +kernel) (by decide +kernel)) (goodIn_sub (fun _ h => List.mem_cons_of_mem _ (List.mem_append_right _ h)) (by decide +kernel))
set_option maxRecDepth 20000 in
theorem gX3_locate_X3_requirePlace : GoodIn wsX3_locate (va_wsS RX3 32 yX3_requirePlace wsX3_requirePlace) := goodIn_app (goodIn_of _ (by decide +kernel)) ggX3_locate_X3_requirePlace
set_option maxRecDepth 20000 in
theorem ggX3_locate_X3_refresh : GoodIn wsX3_locate wsX3_refresh := goodIn_r _ [13, 14, 3, 2, 15, 16, 17, 18, 19, 20, 21, 22, 23, 24, 25, 26, 27, 28, 29, 30, 31, 32, 33, 34, 35, 36, 37, 38, 39, 40, 41, 42, 43, 44, 45, 46, 47, 48, 49, 50, 51, 52, 53, 54, 55, 56, 57, 58, 59, 60, 61, 62, 63, 64, 65, 66, 67, 68, 69, 70, 71, 72, 73, 74, 75, 76, 77, 78, 79, 80, 81, 82, 83, 84, 85, 86, 87, 88, 89, 90, 91, 92, 93, 94, 95, 96, 97, 98, 99, 100, 101, 102, 103, 104, 105, 106, 107, 108, 109, 110, 111, 112, 113, 114, 115, 116, 117, 118, 119, 120, 121, 122, 123, 124, 125, 126, 127, 128, 129, 130, 131, 132, 133, 134, 135, 136, 137, 138, 139, 140, 141, 142, 143, 144, 145, 146, 147, 148, 149, 150, 151, 152, 164, 165, 166, 167, 168, 169, 170, 171, 172, 173, 174, 175, 176, 177, 178, 179, 180, 181, 182, 183, 184, 185, 186, 187, 188, 189, 190] (by decide +kernel) (by decide +kernel)
set_option maxRecDepth 20000 in
theorem gX3_locate_X3_refresh : GoodIn wsX3_locate (wsV RX3 79 RX3 yX3_refresh wsX3_refresh) := goodIn_app (goodIn_of _ (by decide +kernel)) ggX3_locate_X3_refresh
set_option maxRecDepth 20000 in
theorem ggX3_locate_X2_leastHalfAt : GoodIn wsX3_locate wsX2_leastHalfAt := goodIn_r _ [34, 35, 36, 37, 179, 180, 181, 182] (by decide +kernel) (by decide +kernel)
set_option maxRecDepth 20000 in
theorem gX3_locate_X2_leastHalfAt : GoodIn wsX3_locate (wsV RX3 140 RX2 yX2_leastHalfAt wsX2_leastHalfAt) := goodIn_app (goodIn_of _ (by decide +kernel)) ggX3_locate_X2_leastHalfAt
set_option maxRecDepth 20000 in
theorem ggX3_locate_X2_segmentThrough : GoodIn wsX3_locate wsX2_segmentThrough := goodIn_r _ [157, 35, 158, 159, 160, 33, 161, 36, 37, 129, 130, 131, 132, 179, 180, 181, 182] (by decide +kernel) (by decide +kernel)
set_option maxRecDepth 20000 in
theorem gX3_locate_X2_segmentThrough : GoodIn wsX3_locate (wsV RX3 144 RX2 yX2_segmentThrough wsX2_segmentThrough) := goodIn_app (goodIn_of _ (by decide +kernel)) ggX3_locate_X2_segmentThrough
set_option maxRecDepth 20000 in
theorem ggX3_locate_X1_enclosing : GoodIn wsX3_locate wsX1_enclosing := goodIn_r _ [115, 80, 116, 90, 117, 118, 119, 18, 120, 21, 22, 79, 81, 82, 83, 84, 121, 122, 123, 33, 124, 36, 125, 126, 127, 128, 129, 130, 131, 132, 37, 133, 109, 110, 111, 74, 89, 168, 169, 170, 171, 172, 173, 174, 175, 176, 177, 178, 179, 180, 181, 182] (by decide +kernel) (by decide +kernel)
set_option maxRecDepth 20000 in
theorem gX3_locate_X1_enclosing : GoodIn wsX3_locate (wsV RX3 147 RX1 yX1_enclosing wsX1_enclosing) := goodIn_app (goodIn_of _ (by decide +kernel)) ggX3_locate_X1_enclosing
set_option maxRecDepth 20000 in
theorem ggX3_locate_X0_faceWithin : GoodIn wsX3_locate wsX0_faceWithin := goodIn_r _ [147, 138, 183, 184, 185, 186, 187, 188, 189, 190] (by decide +kernel) (by decide +kernel)
set_option maxRecDepth 20000 in
theorem gX3_locate_X0_faceWithin : GoodIn wsX3_locate (wsV RX3 151 RX0 yX0_faceWithin wsX0_faceWithin) := goodIn_app (goodIn_of _ (by decide +kernel)) ggX3_locate_X0_faceWithin
theorem dX3_locate_0 : decode cX3_locate 0 = .ok (.iload_n 1, 1) := by decide +kernel
theorem dX3_locate_1 : decode cX3_locate 1 = .ok (.iload_n 2, 1) := by decide +kernel
theorem dX3_locate_2 : decode cX3_locate 2 = .ok (.invokestatic 32, 3) := by decide +kernel
theorem dX3_locate_5 : decode cX3_locate 5 = .ok (.aload_n 0, 1) := by decide +kernel
theorem dX3_locate_6 : decode cX3_locate 6 = .ok (.invokevirtual 79, 3) := by decide +kernel
theorem dX3_locate_9 : decode cX3_locate 9 = .ok (.aload_n 0, 1) := by decide +kernel
theorem dX3_locate_10 : decode cX3_locate 10 = .ok (.getfield 27, 3) := by decide +kernel
theorem dX3_locate_13 : decode cX3_locate 13 = .ok (.iload_n 1, 1) := by decide +kernel
theorem dX3_locate_14 : decode cX3_locate 14 = .ok (.iload_n 2, 1) := by decide +kernel
theorem dX3_locate_15 : decode cX3_locate 15 = .ok (.invokevirtual 140, 3) := by decide +kernel
theorem dX3_locate_18 : decode cX3_locate 18 = .ok (.istore_n 3, 1) := by decide +kernel
theorem dX3_locate_19 : decode cX3_locate 19 = .ok (.iload_n 3, 1) := by decide +kernel
theorem dX3_locate_20 : decode cX3_locate 20 = .ok (.iconst (-1), 1) := by decide +kernel
theorem dX3_locate_21 : decode cX3_locate 21 = .ok (.if_icmp .eq 8, 3) := by decide +kernel
theorem dX3_locate_24 : decode cX3_locate 24 = .ok (.bipush (-100), 2) := by decide +kernel
theorem dX3_locate_26 : decode cX3_locate 26 = .ok (.iload_n 3, 1) := by decide +kernel
theorem dX3_locate_27 : decode cX3_locate 27 = .ok (.isub, 1) := by decide +kernel
theorem dX3_locate_28 : decode cX3_locate 28 = .ok (.ireturn, 1) := by decide +kernel
theorem dX3_locate_29 : decode cX3_locate 29 = .ok (.aload_n 0, 1) := by decide +kernel
theorem dX3_locate_30 : decode cX3_locate 30 = .ok (.getfield 27, 3) := by decide +kernel
theorem dX3_locate_33 : decode cX3_locate 33 = .ok (.iload_n 1, 1) := by decide +kernel
theorem dX3_locate_34 : decode cX3_locate 34 = .ok (.iload_n 2, 1) := by decide +kernel
theorem dX3_locate_35 : decode cX3_locate 35 = .ok (.invokevirtual 144, 3) := by decide +kernel
theorem dX3_locate_38 : decode cX3_locate 38 = .ok (.istore 4, 2) := by decide +kernel
theorem dX3_locate_40 : decode cX3_locate 40 = .ok (.iload 4, 2) := by decide +kernel
theorem dX3_locate_42 : decode cX3_locate 42 = .ok (.iconst (-1), 1) := by decide +kernel
theorem dX3_locate_43 : decode cX3_locate 43 = .ok (.if_icmp .eq 9, 3) := by decide +kernel
theorem dX3_locate_46 : decode cX3_locate 46 = .ok (.bipush (-2), 2) := by decide +kernel
theorem dX3_locate_48 : decode cX3_locate 48 = .ok (.iload 4, 2) := by decide +kernel
theorem dX3_locate_50 : decode cX3_locate 50 = .ok (.isub, 1) := by decide +kernel
theorem dX3_locate_51 : decode cX3_locate 51 = .ok (.ireturn, 1) := by decide +kernel
theorem dX3_locate_52 : decode cX3_locate 52 = .ok (.aload_n 0, 1) := by decide +kernel
theorem dX3_locate_53 : decode cX3_locate 53 = .ok (.getfield 12, 3) := by decide +kernel
theorem dX3_locate_56 : decode cX3_locate 56 = .ok (.aload_n 0, 1) := by decide +kernel
theorem dX3_locate_57 : decode cX3_locate 57 = .ok (.getfield 20, 3) := by decide +kernel
theorem dX3_locate_60 : decode cX3_locate 60 = .ok (.iload_n 1, 1) := by decide +kernel
theorem dX3_locate_61 : decode cX3_locate 61 = .ok (.iload_n 2, 1) := by decide +kernel
theorem dX3_locate_62 : decode cX3_locate 62 = .ok (.iconst (-1), 1) := by decide +kernel
theorem dX3_locate_63 : decode cX3_locate 63 = .ok (.invokevirtual 147, 3) := by decide +kernel
theorem dX3_locate_66 : decode cX3_locate 66 = .ok (.invokevirtual 151, 3) := by decide +kernel
theorem dX3_locate_69 : decode cX3_locate 69 = .ok (.ireturn, 1) := by decide +kernel
set_option maxRecDepth 20000 in
theorem ggX3_above_X3_requirePlace : GoodIn wsX3_above wsX3_requirePlace := goodIn_ca (goodIn_r _ [5, 6, 7] (by decide +kernel) (by decide +kernel)) (goodIn_sub (fun _ h => List.mem_cons_of_mem _ (List.mem_append_right _ h)) (by decide +kernel))
set_option maxRecDepth 20000 in
theorem gX3_above_X3_requirePlace : GoodIn wsX3_above (va_wsS RX3 32 yX3_requirePlace wsX3_requirePlace) := goodIn_app (goodIn_of _ (by decide +kernel)) ggX3_above_X3_requirePlace
set_option maxRecDepth 20000 in
theorem ggX3_above_X2_firstUpFrom : GoodIn wsX3_above wsX2_firstUpFrom := goodIn_r _ [12, 13, 14, 15, 16, 11, 17, 18, 19, 20, 21, 22, 23, 24, 25, 26, 27, 28, 29, 30, 31, 32, 33, 34, 35, 36, 37, 38, 39, 40, 41, 42, 43, 44, 45, 50, 51, 52, 53] (by decide +kernel) (by decide +kernel)
set_option maxRecDepth 20000 in
theorem gX3_above_X2_firstUpFrom : GoodIn wsX3_above (wsV RX3 154 RX2 yX2_firstUpFrom wsX2_firstUpFrom) := goodIn_app (goodIn_of _ (by decide +kernel)) ggX3_above_X2_firstUpFrom
theorem dX3_above_0 : decode cX3_above 0 = .ok (.iload_n 1, 1) := by decide +kernel
theorem dX3_above_1 : decode cX3_above 1 = .ok (.iload_n 2, 1) := by decide +kernel
theorem dX3_above_2 : decode cX3_above 2 = .ok (.invokestatic 32, 3) := by decide +kernel
theorem dX3_above_5 : decode cX3_above 5 = .ok (.aload_n 0, 1) := by decide +kernel
theorem dX3_above_6 : decode cX3_above 6 = .ok (.getfield 27, 3) := by decide +kernel
theorem dX3_above_9 : decode cX3_above 9 = .ok (.iload_n 1, 1) := by decide +kernel
theorem dX3_above_10 : decode cX3_above 10 = .ok (.iload_n 2, 1) := by decide +kernel
theorem dX3_above_11 : decode cX3_above 11 = .ok (.invokevirtual 154, 3) := by decide +kernel
theorem dX3_above_14 : decode cX3_above 14 = .ok (.ireturn, 1) := by decide +kernel
set_option maxRecDepth 20000 in
theorem ggX3_across_X3_refresh : GoodIn wsX3_across wsX3_refresh := goodIn_r _ [6, 7, 8, 1, 9, 10, 11, 12, 13, 14, 15, 16, 17, 18, 19, 20, 21, 22, 23, 24, 25, 26, 27, 28, 29, 30, 31, 32, 33, 34, 35, 36, 37, 38, 39, 40, 41, 42, 43, 44, 45, 46, 47, 48, 49, 50, 51, 52, 53, 54, 55, 56, 57, 58, 59, 60, 61, 62, 63, 64, 65, 66, 67, 68, 69, 70, 71, 72, 73, 74, 75, 76, 77, 78, 79, 80, 81, 82, 83, 84, 85, 86, 87, 88, 89, 90, 91, 92, 93, 94, 95, 96, 97, 98, 99, 100, 101, 102, 103, 104, 105, 106, 107, 108, 109, 110, 111, 112, 113, 114, 115, 116, 117, 118, 119, 120, 121, 122, 123, 124, 125, 126, 127, 128, 129, 130, 131, 132, 133, 134, 135, 136, 137, 138, 139, 140, 141, 142, 143, 144, 145, 146, 163, 164, 165, 166, 167, 168, 169, 170, 171, 172, 173, 174, 175, 176, 177, 178, 179, 180, 181, 182, 183, 184, 185, 186, 187, 188, 189] (by decide +kernel) (by decide +kernel)
set_option maxRecDepth 20000 in
theorem gX3_across_X3_refresh : GoodIn wsX3_across (wsV RX3 79 RX3 yX3_refresh wsX3_refresh) := goodIn_app (goodIn_of _ (by decide +kernel)) ggX3_across_X3_refresh
set_option maxRecDepth 20000 in
theorem ggX3_across_X3_requireFace : GoodIn wsX3_across wsX3_requireFace := goodIn_ca (goodIn_r _ [150, 151, 152, 1, 153, 163, 164, 165, 166, 182, 183, 184, 185, 186, 187, 188, 189] (by decide +kernel) (by decide +kernel)) (goodIn_sub (fun _ h => List.mem_cons_of_mem _ (List.mem_append_right _ h)) (by decide +kernel))
set_option maxRecDepth 20000 in
theorem gX3_across_X3_requireFace : GoodIn wsX3_across (wsV RX3 120 RX3 yX3_requireFace wsX3_requireFace) := goodIn_app (goodIn_of _ (by decide +kernel)) ggX3_across_X3_requireFace
set_option maxRecDepth 20000 in
theorem ggX3_across_X0_crossings : GoodIn wsX3_across wsX0_crossings := goodIn_r _ [157, 158, 133, 99, 134, 136, 137, 76, 77, 78, 159, 160, 161, 92, 162, 182, 183, 184, 185, 186, 187, 188, 189, 178, 179, 180, 181] (by decide +kernel) (by decide +kernel)
set_option maxRecDepth 20000 in
theorem gX3_across_X0_crossings : GoodIn wsX3_across (wsV RX3 157 RX0 yX0_crossings wsX0_crossings) := goodIn_app (goodIn_of _ (by decide +kernel)) ggX3_across_X0_crossings
theorem dX3_across_0 : decode cX3_across 0 = .ok (.aload_n 0, 1) := by decide +kernel
theorem dX3_across_1 : decode cX3_across 1 = .ok (.invokevirtual 79, 3) := by decide +kernel
theorem dX3_across_4 : decode cX3_across 4 = .ok (.aload_n 0, 1) := by decide +kernel
theorem dX3_across_5 : decode cX3_across 5 = .ok (.iload_n 1, 1) := by decide +kernel
theorem dX3_across_6 : decode cX3_across 6 = .ok (.invokevirtual 120, 3) := by decide +kernel
theorem dX3_across_9 : decode cX3_across 9 = .ok (.aload_n 0, 1) := by decide +kernel
theorem dX3_across_10 : decode cX3_across 10 = .ok (.iload_n 2, 1) := by decide +kernel
theorem dX3_across_11 : decode cX3_across 11 = .ok (.invokevirtual 120, 3) := by decide +kernel
theorem dX3_across_14 : decode cX3_across 14 = .ok (.aload_n 0, 1) := by decide +kernel
theorem dX3_across_15 : decode cX3_across 15 = .ok (.getfield 12, 3) := by decide +kernel
theorem dX3_across_18 : decode cX3_across 18 = .ok (.iload_n 1, 1) := by decide +kernel
theorem dX3_across_19 : decode cX3_across 19 = .ok (.iload_n 2, 1) := by decide +kernel
theorem dX3_across_20 : decode cX3_across 20 = .ok (.invokevirtual 157, 3) := by decide +kernel
theorem dX3_across_23 : decode cX3_across 23 = .ok (.ireturn, 1) := by decide +kernel
set_option maxRecDepth 20000 in
theorem ggX3_refresh_X1_trace : GoodIn wsX3_refresh wsX1_trace := goodIn_r _ [8, 9, 10, 11, 12, 13, 14, 7, 15, 16, 17, 18, 19, 20, 21, 22, 23, 24, 25, 26, 27, 28, 29, 30, 31, 32, 33, 34, 35, 36, 37, 38, 39, 40, 41, 42, 43, 44, 45, 46, 47, 48, 49, 50, 51, 52, 53, 54, 55, 56, 57, 58, 59, 60, 61, 62, 63, 64, 65, 66, 67, 68, 69, 70, 71, 72, 73, 74, 75, 76, 77, 78, 79, 80, 81, 82, 83, 146, 147, 148, 149, 150, 151, 152, 153, 154, 155, 156, 157, 158, 159, 160] (by decide +kernel) (by decide +kernel)
set_option maxRecDepth 20000 in
theorem gX3_refresh_X1_trace : GoodIn wsX3_refresh (wsV RX3 160 RX1 yX1_trace wsX1_trace) := goodIn_app (goodIn_of _ (by decide +kernel)) ggX3_refresh_X1_trace
set_option maxRecDepth 20000 in
theorem ggX3_refresh_X0_findHomes : GoodIn wsX3_refresh wsX0_findHomes := goodIn_r _ [88, 89, 90, 91, 92, 93, 94, 95, 96, 97, 98, 99, 7, 100, 63, 78, 101, 102, 103, 104, 69, 105, 79, 106, 107, 108, 109, 10, 11, 68, 70, 71, 72, 73, 110, 111, 112, 22, 113, 25, 114, 115, 116, 117, 118, 119, 120, 121, 26, 122, 161, 162, 163, 164, 165, 166, 167, 168, 146, 147, 148, 149, 150, 151, 152, 153, 154, 155, 156, 157, 158, 159, 160] (by decide +kernel) (by decide +kernel)
set_option maxRecDepth 20000 in
theorem gX3_refresh_X0_findHomes : GoodIn wsX3_refresh (wsV RX3 163 RX0 yX0_findHomes wsX0_findHomes) := goodIn_app (goodIn_of _ (by decide +kernel)) ggX3_refresh_X0_findHomes
set_option maxRecDepth 20000 in
theorem ggX3_refresh_X0_numberFaces : GoodIn wsX3_refresh wsX0_numberFaces := goodIn_r _ [126, 127, 128, 94, 129, 92, 89, 130, 131, 132, 71, 72, 73, 133, 134, 135, 87, 136, 161, 162, 163, 164, 165, 166, 167, 168, 157, 158, 159, 160, 146, 147, 148, 149, 150, 151, 152, 153, 154, 155, 156] (by decide +kernel) (by decide +kernel)
set_option maxRecDepth 20000 in
theorem gX3_refresh_X0_numberFaces : GoodIn wsX3_refresh (wsV RX3 166 RX0 yX0_numberFaces wsX0_numberFaces) := goodIn_app (goodIn_of _ (by decide +kernel)) ggX3_refresh_X0_numberFaces
set_option maxRecDepth 20000 in
theorem ggX3_refresh_X0_findOutsides : GoodIn wsX3_refresh wsX0_findOutsides := goodIn_r _ [140, 89, 90, 92, 141, 131, 91, 97, 98, 99, 7, 100, 63, 78, 161, 162, 163, 164, 165, 166, 167, 168, 146, 147, 148, 149, 150, 151, 152, 153, 154, 155, 156] (by decide +kernel) (by decide +kernel)
set_option maxRecDepth 20000 in
theorem gX3_refresh_X0_findOutsides : GoodIn wsX3_refresh (wsV RX3 169 RX0 yX0_findOutsides wsX0_findOutsides) := goodIn_app (goodIn_of _ (by decide +kernel)) ggX3_refresh_X0_findOutsides
theorem dX3_refresh_0 : decode cX3_refresh 0 = .ok (.aload_n 0, 1) := by decide +kernel
theorem dX3_refresh_1 : decode cX3_refresh 1 = .ok (.getfield 28, 3) := by decide +kernel
theorem dX3_refresh_4 : decode cX3_refresh 4 = .ok (.ifCond .eq 36, 3) := by decide +kernel
theorem dX3_refresh_7 : decode cX3_refresh 7 = .ok (.aload_n 0, 1) := by decide +kernel
theorem dX3_refresh_8 : decode cX3_refresh 8 = .ok (.getfield 20, 3) := by decide +kernel
theorem dX3_refresh_11 : decode cX3_refresh 11 = .ok (.invokevirtual 160, 3) := by decide +kernel
theorem dX3_refresh_14 : decode cX3_refresh 14 = .ok (.aload_n 0, 1) := by decide +kernel
theorem dX3_refresh_15 : decode cX3_refresh 15 = .ok (.getfield 12, 3) := by decide +kernel
theorem dX3_refresh_18 : decode cX3_refresh 18 = .ok (.invokevirtual 163, 3) := by decide +kernel
theorem dX3_refresh_21 : decode cX3_refresh 21 = .ok (.aload_n 0, 1) := by decide +kernel
theorem dX3_refresh_22 : decode cX3_refresh 22 = .ok (.getfield 12, 3) := by decide +kernel
theorem dX3_refresh_25 : decode cX3_refresh 25 = .ok (.invokevirtual 166, 3) := by decide +kernel
theorem dX3_refresh_28 : decode cX3_refresh 28 = .ok (.aload_n 0, 1) := by decide +kernel
theorem dX3_refresh_29 : decode cX3_refresh 29 = .ok (.getfield 12, 3) := by decide +kernel
theorem dX3_refresh_32 : decode cX3_refresh 32 = .ok (.invokevirtual 169, 3) := by decide +kernel
theorem dX3_refresh_35 : decode cX3_refresh 35 = .ok (.aload_n 0, 1) := by decide +kernel
theorem dX3_refresh_36 : decode cX3_refresh 36 = .ok (.iconst 0, 1) := by decide +kernel
theorem dX3_refresh_37 : decode cX3_refresh 37 = .ok (.putfield 28, 3) := by decide +kernel
theorem dX3_refresh_40 : decode cX3_refresh 40 = .ok (.return_, 1) := by decide +kernel
set_option maxRecDepth 20000 in
theorem ggX3_requireHalf_X2_has : GoodIn wsX3_requireHalf wsX2_has := goodIn_r _ [8, 9, 14, 15, 16, 17] (by decide +kernel) (by decide +kernel)
set_option maxRecDepth 20000 in
theorem gX3_requireHalf_X2_has : GoodIn wsX3_requireHalf (wsV RX3 66 RX2 yX2_has wsX2_has) := goodIn_app (goodIn_of _ (by decide +kernel)) ggX3_requireHalf_X2_has
theorem dX3_requireHalf_0 : decode cX3_requireHalf 0 = .ok (.aload_n 0, 1) := by decide +kernel
theorem dX3_requireHalf_1 : decode cX3_requireHalf 1 = .ok (.getfield 27, 3) := by decide +kernel
theorem dX3_requireHalf_4 : decode cX3_requireHalf 4 = .ok (.iload_n 1, 1) := by decide +kernel
theorem dX3_requireHalf_5 : decode cX3_requireHalf 5 = .ok (.iconst 1, 1) := by decide +kernel
theorem dX3_requireHalf_6 : decode cX3_requireHalf 6 = .ok (.ishr, 1) := by decide +kernel
theorem dX3_requireHalf_7 : decode cX3_requireHalf 7 = .ok (.invokevirtual 66, 3) := by decide +kernel
theorem dX3_requireHalf_10 : decode cX3_requireHalf 10 = .ok (.ifCond .ne 13, 3) := by decide +kernel
theorem dX3_requireHalf_13 : decode cX3_requireHalf 13 = .ok (.new 112, 3) := by decide +kernel
theorem dX3_requireHalf_16 : decode cX3_requireHalf 16 = .ok (.dup, 1) := by decide +kernel
theorem dX3_requireHalf_17 : decode cX3_requireHalf 17 = .ok (.ldc 172, 2) := by decide +kernel
theorem dX3_requireHalf_19 : decode cX3_requireHalf 19 = .ok (.invokespecial 116, 3) := by decide +kernel
theorem dX3_requireHalf_22 : decode cX3_requireHalf 22 = .ok (.athrow, 1) := by decide +kernel
theorem dX3_requireHalf_23 : decode cX3_requireHalf 23 = .ok (.return_, 1) := by decide +kernel
theorem dX3_requireFace_0 : decode cX3_requireFace 0 = .ok (.iload_n 1, 1) := by decide +kernel
theorem dX3_requireFace_1 : decode cX3_requireFace 1 = .ok (.ifCond .lt 14, 3) := by decide +kernel
theorem dX3_requireFace_4 : decode cX3_requireFace 4 = .ok (.iload_n 1, 1) := by decide +kernel
theorem dX3_requireFace_5 : decode cX3_requireFace 5 = .ok (.aload_n 0, 1) := by decide +kernel
theorem dX3_requireFace_6 : decode cX3_requireFace 6 = .ok (.getfield 12, 3) := by decide +kernel
theorem dX3_requireFace_9 : decode cX3_requireFace 9 = .ok (.getfield 85, 3) := by decide +kernel
theorem dX3_requireFace_12 : decode cX3_requireFace 12 = .ok (.if_icmp .lt 13, 3) := by decide +kernel
theorem dX3_requireFace_15 : decode cX3_requireFace 15 = .ok (.new 112, 3) := by decide +kernel
theorem dX3_requireFace_18 : decode cX3_requireFace 18 = .ok (.dup, 1) := by decide +kernel
theorem dX3_requireFace_19 : decode cX3_requireFace 19 = .ok (.ldc 174, 2) := by decide +kernel
theorem dX3_requireFace_21 : decode cX3_requireFace 21 = .ok (.invokespecial 116, 3) := by decide +kernel
theorem dX3_requireFace_24 : decode cX3_requireFace 24 = .ok (.athrow, 1) := by decide +kernel
theorem dX3_requireFace_25 : decode cX3_requireFace 25 = .ok (.return_, 1) := by decide +kernel
theorem dX3_requirePlace_0 : decode cX3_requirePlace 0 = .ok (.iload_n 0, 1) := by decide +kernel
theorem dX3_requirePlace_1 : decode cX3_requirePlace 1 = .ok (.sipush (-16000), 3) := by decide +kernel
theorem dX3_requirePlace_4 : decode cX3_requirePlace 4 = .ok (.if_icmp .lt 24, 3) := by decide +kernel
theorem dX3_requirePlace_7 : decode cX3_requirePlace 7 = .ok (.iload_n 0, 1) := by decide +kernel
theorem dX3_requirePlace_8 : decode cX3_requirePlace 8 = .ok (.sipush 16000, 3) := by decide +kernel
theorem dX3_requirePlace_11 : decode cX3_requirePlace 11 = .ok (.if_icmp .gt 17, 3) := by decide +kernel
theorem dX3_requirePlace_14 : decode cX3_requirePlace 14 = .ok (.iload_n 1, 1) := by decide +kernel
theorem dX3_requirePlace_15 : decode cX3_requirePlace 15 = .ok (.sipush (-16000), 3) := by decide +kernel
theorem dX3_requirePlace_18 : decode cX3_requirePlace 18 = .ok (.if_icmp .lt 10, 3) := by decide +kernel
theorem dX3_requirePlace_21 : decode cX3_requirePlace 21 = .ok (.iload_n 1, 1) := by decide +kernel
theorem dX3_requirePlace_22 : decode cX3_requirePlace 22 = .ok (.sipush 16000, 3) := by decide +kernel
theorem dX3_requirePlace_25 : decode cX3_requirePlace 25 = .ok (.if_icmp .le 13, 3) := by decide +kernel
theorem dX3_requirePlace_28 : decode cX3_requirePlace 28 = .ok (.new 36, 3) := by decide +kernel
theorem dX3_requirePlace_31 : decode cX3_requirePlace 31 = .ok (.dup, 1) := by decide +kernel
theorem dX3_requirePlace_32 : decode cX3_requirePlace 32 = .ok (.ldc 176, 2) := by decide +kernel
theorem dX3_requirePlace_34 : decode cX3_requirePlace 34 = .ok (.invokespecial 40, 3) := by decide +kernel
theorem dX3_requirePlace_37 : decode cX3_requirePlace 37 = .ok (.athrow, 1) := by decide +kernel
theorem dX3_requirePlace_38 : decode cX3_requirePlace 38 = .ok (.return_, 1) := by decide +kernel
theorem dJ9_abs_0f7a4_0 : decode cJ9_abs_0f7a4 0 = .ok (.iload_n 0, 1) := by decide +kernel
theorem dJ9_abs_0f7a4_1 : decode cJ9_abs_0f7a4 1 = .ok (.ifCond .ge 8, 3) := by decide +kernel
theorem dJ9_abs_0f7a4_4 : decode cJ9_abs_0f7a4 4 = .ok (.iload_n 0, 1) := by decide +kernel
theorem dJ9_abs_0f7a4_5 : decode cJ9_abs_0f7a4 5 = .ok (.ineg, 1) := by decide +kernel
theorem dJ9_abs_0f7a4_6 : decode cJ9_abs_0f7a4 6 = .ok (.goto 4, 3) := by decide +kernel
theorem dJ9_abs_0f7a4_9 : decode cJ9_abs_0f7a4 9 = .ok (.iload_n 0, 1) := by decide +kernel
theorem dJ9_abs_0f7a4_10 : decode cJ9_abs_0f7a4 10 = .ok (.ireturn, 1) := by decide +kernel
theorem dJ9_max_7cf53_0 : decode cJ9_max_7cf53 0 = .ok (.iload_n 0, 1) := by decide +kernel
theorem dJ9_max_7cf53_1 : decode cJ9_max_7cf53 1 = .ok (.iload_n 1, 1) := by decide +kernel
theorem dJ9_max_7cf53_2 : decode cJ9_max_7cf53 2 = .ok (.if_icmp .lt 7, 3) := by decide +kernel
theorem dJ9_max_7cf53_5 : decode cJ9_max_7cf53 5 = .ok (.iload_n 0, 1) := by decide +kernel
theorem dJ9_max_7cf53_6 : decode cJ9_max_7cf53 6 = .ok (.goto 4, 3) := by decide +kernel
theorem dJ9_max_7cf53_9 : decode cJ9_max_7cf53 9 = .ok (.iload_n 1, 1) := by decide +kernel
theorem dJ9_max_7cf53_10 : decode cJ9_max_7cf53 10 = .ok (.ireturn, 1) := by decide +kernel
theorem dJ9_min_7cf53_0 : decode cJ9_min_7cf53 0 = .ok (.iload_n 0, 1) := by decide +kernel
theorem dJ9_min_7cf53_1 : decode cJ9_min_7cf53 1 = .ok (.iload_n 1, 1) := by decide +kernel
theorem dJ9_min_7cf53_2 : decode cJ9_min_7cf53 2 = .ok (.if_icmp .gt 7, 3) := by decide +kernel
theorem dJ9_min_7cf53_5 : decode cJ9_min_7cf53 5 = .ok (.iload_n 0, 1) := by decide +kernel
theorem dJ9_min_7cf53_6 : decode cJ9_min_7cf53 6 = .ok (.goto 4, 3) := by decide +kernel
theorem dJ9_min_7cf53_9 : decode cJ9_min_7cf53 9 = .ok (.iload_n 1, 1) := by decide +kernel
theorem dJ9_min_7cf53_10 : decode cJ9_min_7cf53 10 = .ok (.ireturn, 1) := by decide +kernel
theorem dJ7_fill_53178_0 : decode cJ7_fill_53178 0 = .ok (.iconst 0, 1) := by decide +kernel
theorem dJ7_fill_53178_1 : decode cJ7_fill_53178 1 = .ok (.istore_n 2, 1) := by decide +kernel
theorem dJ7_fill_53178_2 : decode cJ7_fill_53178 2 = .ok (.aload_n 0, 1) := by decide +kernel
theorem dJ7_fill_53178_3 : decode cJ7_fill_53178 3 = .ok (.arraylength, 1) := by decide +kernel
theorem dJ7_fill_53178_4 : decode cJ7_fill_53178 4 = .ok (.istore_n 3, 1) := by decide +kernel
theorem dJ7_fill_53178_5 : decode cJ7_fill_53178 5 = .ok (.iload_n 2, 1) := by decide +kernel
theorem dJ7_fill_53178_6 : decode cJ7_fill_53178 6 = .ok (.iload_n 3, 1) := by decide +kernel
theorem dJ7_fill_53178_7 : decode cJ7_fill_53178 7 = .ok (.if_icmp .ge 13, 3) := by decide +kernel
theorem dJ7_fill_53178_10 : decode cJ7_fill_53178 10 = .ok (.aload_n 0, 1) := by decide +kernel
theorem dJ7_fill_53178_11 : decode cJ7_fill_53178 11 = .ok (.iload_n 2, 1) := by decide +kernel
theorem dJ7_fill_53178_12 : decode cJ7_fill_53178 12 = .ok (.iload_n 1, 1) := by decide +kernel
theorem dJ7_fill_53178_13 : decode cJ7_fill_53178 13 = .ok (.iastore, 1) := by decide +kernel
theorem dJ7_fill_53178_14 : decode cJ7_fill_53178 14 = .ok (.iinc 2 1, 3) := by decide +kernel
theorem dJ7_fill_53178_17 : decode cJ7_fill_53178 17 = .ok (.goto (-12), 3) := by decide +kernel
theorem dJ7_fill_53178_20 : decode cJ7_fill_53178 20 = .ok (.return_, 1) := by decide +kernel
