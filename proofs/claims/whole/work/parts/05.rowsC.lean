theorem dX4_init_0 : decode cX4_init 0 = .ok (.aload_n 0, 1) := by decide +kernel
theorem dX4_init_1 : decode cX4_init 1 = .ok (.invokespecial 1, 3) := by decide +kernel
theorem dX4_init_4 : decode cX4_init 4 = .ok (.aload_n 0, 1) := by decide +kernel
theorem dX4_init_5 : decode cX4_init 5 = .ok (.bipush 60, 2) := by decide +kernel
theorem dX4_init_7 : decode cX4_init 7 = .ok (.newarray .boolean, 2) := by decide +kernel
theorem dX4_init_9 : decode cX4_init 9 = .ok (.putfield 7, 3) := by decide +kernel
theorem dX4_init_12 : decode cX4_init 12 = .ok (.aload_n 0, 1) := by decide +kernel
theorem dX4_init_13 : decode cX4_init 13 = .ok (.bipush 120, 2) := by decide +kernel
theorem dX4_init_15 : decode cX4_init 15 = .ok (.newarray .int, 2) := by decide +kernel
theorem dX4_init_17 : decode cX4_init 17 = .ok (.putfield 13, 3) := by decide +kernel
theorem dX4_init_20 : decode cX4_init 20 = .ok (.aload_n 0, 1) := by decide +kernel
theorem dX4_init_21 : decode cX4_init 21 = .ok (.bipush 120, 2) := by decide +kernel
theorem dX4_init_23 : decode cX4_init 23 = .ok (.newarray .int, 2) := by decide +kernel
theorem dX4_init_25 : decode cX4_init 25 = .ok (.putfield 17, 3) := by decide +kernel
theorem dX4_init_28 : decode cX4_init 28 = .ok (.aload_n 0, 1) := by decide +kernel
theorem dX4_init_29 : decode cX4_init 29 = .ok (.bipush 120, 2) := by decide +kernel
theorem dX4_init_31 : decode cX4_init 31 = .ok (.newarray .int, 2) := by decide +kernel
theorem dX4_init_33 : decode cX4_init 33 = .ok (.putfield 20, 3) := by decide +kernel
theorem dX4_init_36 : decode cX4_init 36 = .ok (.aload_n 0, 1) := by decide +kernel
theorem dX4_init_37 : decode cX4_init 37 = .ok (.bipush 120, 2) := by decide +kernel
theorem dX4_init_39 : decode cX4_init 39 = .ok (.newarray .int, 2) := by decide +kernel
theorem dX4_init_41 : decode cX4_init 41 = .ok (.putfield 23, 3) := by decide +kernel
theorem dX4_init_44 : decode cX4_init 44 = .ok (.aload_n 0, 1) := by decide +kernel
theorem dX4_init_45 : decode cX4_init 45 = .ok (.bipush 120, 2) := by decide +kernel
theorem dX4_init_47 : decode cX4_init 47 = .ok (.newarray .int, 2) := by decide +kernel
theorem dX4_init_49 : decode cX4_init 49 = .ok (.putfield 26, 3) := by decide +kernel
theorem dX4_init_52 : decode cX4_init 52 = .ok (.aload_n 0, 1) := by decide +kernel
theorem dX4_init_53 : decode cX4_init 53 = .ok (.bipush 120, 2) := by decide +kernel
theorem dX4_init_55 : decode cX4_init 55 = .ok (.newarray .int, 2) := by decide +kernel
theorem dX4_init_57 : decode cX4_init 57 = .ok (.putfield 29, 3) := by decide +kernel
theorem dX4_init_60 : decode cX4_init 60 = .ok (.aload_n 0, 1) := by decide +kernel
theorem dX4_init_61 : decode cX4_init 61 = .ok (.bipush 120, 2) := by decide +kernel
theorem dX4_init_63 : decode cX4_init 63 = .ok (.newarray .long, 2) := by decide +kernel
theorem dX4_init_65 : decode cX4_init 65 = .ok (.putfield 32, 3) := by decide +kernel
theorem dX4_init_68 : decode cX4_init 68 = .ok (.aload_n 0, 1) := by decide +kernel
theorem dX4_init_69 : decode cX4_init 69 = .ok (.bipush 120, 2) := by decide +kernel
theorem dX4_init_71 : decode cX4_init 71 = .ok (.newarray .int, 2) := by decide +kernel
theorem dX4_init_73 : decode cX4_init 73 = .ok (.putfield 36, 3) := by decide +kernel
theorem dX4_init_76 : decode cX4_init 76 = .ok (.aload_n 0, 1) := by decide +kernel
theorem dX4_init_77 : decode cX4_init 77 = .ok (.bipush 122, 2) := by decide +kernel
theorem dX4_init_79 : decode cX4_init 79 = .ok (.newarray .int, 2) := by decide +kernel
theorem dX4_init_81 : decode cX4_init 81 = .ok (.putfield 39, 3) := by decide +kernel
theorem dX4_init_84 : decode cX4_init 84 = .ok (.aload_n 0, 1) := by decide +kernel
theorem dX4_init_85 : decode cX4_init 85 = .ok (.bipush 122, 2) := by decide +kernel
theorem dX4_init_87 : decode cX4_init 87 = .ok (.newarray .int, 2) := by decide +kernel
theorem dX4_init_89 : decode cX4_init 89 = .ok (.putfield 42, 3) := by decide +kernel
theorem dX4_init_92 : decode cX4_init 92 = .ok (.return_, 1) := by decide +kernel
theorem dX4_thrown_0 : decode cX4_thrown 0 = .ok (.aload_n 0, 1) := by decide +kernel
theorem dX4_thrown_1 : decode cX4_thrown 1 = .ok (.getfield 45, 3) := by decide +kernel
theorem dX4_thrown_4 : decode cX4_thrown 4 = .ok (.ireturn, 1) := by decide +kernel
theorem dX4_refused_0 : decode cX4_refused 0 = .ok (.aload_n 0, 1) := by decide +kernel
theorem dX4_refused_1 : decode cX4_refused 1 = .ok (.iload_n 1, 1) := by decide +kernel
theorem dX4_refused_2 : decode cX4_refused 2 = .ok (.putfield 45, 3) := by decide +kernel
theorem dX4_refused_5 : decode cX4_refused 5 = .ok (.iload_n 1, 1) := by decide +kernel
theorem dX4_refused_6 : decode cX4_refused 6 = .ok (.ifCond .le 7, 3) := by decide +kernel
theorem dX4_refused_9 : decode cX4_refused 9 = .ok (.iconst 1, 1) := by decide +kernel
theorem dX4_refused_10 : decode cX4_refused 10 = .ok (.goto 4, 3) := by decide +kernel
theorem dX4_refused_13 : decode cX4_refused 13 = .ok (.iconst 0, 1) := by decide +kernel
theorem dX4_refused_14 : decode cX4_refused 14 = .ok (.ireturn, 1) := by decide +kernel
theorem dX4_isIn_0 : decode cX4_isIn 0 = .ok (.iload_n 0, 1) := by decide +kernel
theorem dX4_isIn_1 : decode cX4_isIn 1 = .ok (.sipush (-16000), 3) := by decide +kernel
theorem dX4_isIn_4 : decode cX4_isIn 4 = .ok (.if_icmp .lt 14, 3) := by decide +kernel
theorem dX4_isIn_7 : decode cX4_isIn 7 = .ok (.iload_n 0, 1) := by decide +kernel
theorem dX4_isIn_8 : decode cX4_isIn 8 = .ok (.sipush 16000, 3) := by decide +kernel
theorem dX4_isIn_11 : decode cX4_isIn 11 = .ok (.if_icmp .gt 7, 3) := by decide +kernel
theorem dX4_isIn_14 : decode cX4_isIn 14 = .ok (.iconst 1, 1) := by decide +kernel
theorem dX4_isIn_15 : decode cX4_isIn 15 = .ok (.goto 4, 3) := by decide +kernel
theorem dX4_isIn_18 : decode cX4_isIn 18 = .ok (.iconst 0, 1) := by decide +kernel
theorem dX4_isIn_19 : decode cX4_isIn 19 = .ok (.ireturn, 1) := by decide +kernel
theorem dX4_sign_0 : decode cX4_sign 0 = .ok (.lload_n 0, 1) := by decide +kernel
theorem dX4_sign_1 : decode cX4_sign 1 = .ok (.lconst 0, 1) := by decide +kernel
theorem dX4_sign_2 : decode cX4_sign 2 = .ok (.lcmp, 1) := by decide +kernel
theorem dX4_sign_3 : decode cX4_sign 3 = .ok (.ifCond .le 7, 3) := by decide +kernel
theorem dX4_sign_6 : decode cX4_sign 6 = .ok (.iconst 1, 1) := by decide +kernel
theorem dX4_sign_7 : decode cX4_sign 7 = .ok (.goto 14, 3) := by decide +kernel
theorem dX4_sign_10 : decode cX4_sign 10 = .ok (.lload_n 0, 1) := by decide +kernel
theorem dX4_sign_11 : decode cX4_sign 11 = .ok (.lconst 0, 1) := by decide +kernel
theorem dX4_sign_12 : decode cX4_sign 12 = .ok (.lcmp, 1) := by decide +kernel
theorem dX4_sign_13 : decode cX4_sign 13 = .ok (.ifCond .ge 7, 3) := by decide +kernel
theorem dX4_sign_16 : decode cX4_sign 16 = .ok (.iconst (-1), 1) := by decide +kernel
theorem dX4_sign_17 : decode cX4_sign 17 = .ok (.goto 4, 3) := by decide +kernel
theorem dX4_sign_20 : decode cX4_sign 20 = .ok (.iconst 0, 1) := by decide +kernel
theorem dX4_sign_21 : decode cX4_sign 21 = .ok (.ireturn, 1) := by decide +kernel
set_option maxRecDepth 20000 in
theorem ggX4_side_X4_sign : GoodIn wsX4_side wsX4_sign := goodIn_r _ [4] (by decide +kernel) (by decide +kernel)
set_option maxRecDepth 20000 in
theorem gX4_side_X4_sign : GoodIn wsX4_side (va_wsS RX4 49 yX4_sign wsX4_sign) := goodIn_app (goodIn_of _ (by decide +kernel)) ggX4_side_X4_sign
theorem dX4_side_0 : decode cX4_side 0 = .ok (.iload_n 2, 1) := by decide +kernel
theorem dX4_side_1 : decode cX4_side 1 = .ok (.iload_n 0, 1) := by decide +kernel
theorem dX4_side_2 : decode cX4_side 2 = .ok (.isub, 1) := by decide +kernel
theorem dX4_side_3 : decode cX4_side 3 = .ok (.i2l, 1) := by decide +kernel
theorem dX4_side_4 : decode cX4_side 4 = .ok (.iload 5, 2) := by decide +kernel
theorem dX4_side_6 : decode cX4_side 6 = .ok (.iload_n 1, 1) := by decide +kernel
theorem dX4_side_7 : decode cX4_side 7 = .ok (.isub, 1) := by decide +kernel
theorem dX4_side_8 : decode cX4_side 8 = .ok (.i2l, 1) := by decide +kernel
theorem dX4_side_9 : decode cX4_side 9 = .ok (.lmul, 1) := by decide +kernel
theorem dX4_side_10 : decode cX4_side 10 = .ok (.iload_n 3, 1) := by decide +kernel
theorem dX4_side_11 : decode cX4_side 11 = .ok (.iload_n 1, 1) := by decide +kernel
theorem dX4_side_12 : decode cX4_side 12 = .ok (.isub, 1) := by decide +kernel
theorem dX4_side_13 : decode cX4_side 13 = .ok (.i2l, 1) := by decide +kernel
theorem dX4_side_14 : decode cX4_side 14 = .ok (.iload 4, 2) := by decide +kernel
theorem dX4_side_16 : decode cX4_side 16 = .ok (.iload_n 0, 1) := by decide +kernel
theorem dX4_side_17 : decode cX4_side 17 = .ok (.isub, 1) := by decide +kernel
theorem dX4_side_18 : decode cX4_side 18 = .ok (.i2l, 1) := by decide +kernel
theorem dX4_side_19 : decode cX4_side 19 = .ok (.lmul, 1) := by decide +kernel
theorem dX4_side_20 : decode cX4_side 20 = .ok (.lsub, 1) := by decide +kernel
theorem dX4_side_21 : decode cX4_side 21 = .ok (.invokestatic 49, 3) := by decide +kernel
theorem dX4_side_24 : decode cX4_side 24 = .ok (.ireturn, 1) := by decide +kernel
set_option maxRecDepth 20000 in
theorem ggX4_isOn_X4_side : GoodIn wsX4_isOn wsX4_side := goodIn_r _ [4, 5, 6, 3, 7] (by decide +kernel) (by decide +kernel)
set_option maxRecDepth 20000 in
theorem gX4_isOn_X4_side : GoodIn wsX4_isOn (va_wsS RX4 53 yX4_side wsX4_side) := goodIn_app (goodIn_of _ (by decide +kernel)) ggX4_isOn_X4_side
theorem dX4_isOn_0 : decode cX4_isOn 0 = .ok (.iload_n 0, 1) := by decide +kernel
theorem dX4_isOn_1 : decode cX4_isOn 1 = .ok (.iload_n 1, 1) := by decide +kernel
theorem dX4_isOn_2 : decode cX4_isOn 2 = .ok (.iload_n 2, 1) := by decide +kernel
theorem dX4_isOn_3 : decode cX4_isOn 3 = .ok (.iload_n 3, 1) := by decide +kernel
theorem dX4_isOn_4 : decode cX4_isOn 4 = .ok (.iload 4, 2) := by decide +kernel
theorem dX4_isOn_6 : decode cX4_isOn 6 = .ok (.iload 5, 2) := by decide +kernel
theorem dX4_isOn_8 : decode cX4_isOn 8 = .ok (.invokestatic 53, 3) := by decide +kernel
theorem dX4_isOn_11 : decode cX4_isOn 11 = .ok (.ifCond .ne 7, 3) := by decide +kernel
theorem dX4_isOn_14 : decode cX4_isOn 14 = .ok (.iconst 1, 1) := by decide +kernel
theorem dX4_isOn_15 : decode cX4_isOn 15 = .ok (.goto 4, 3) := by decide +kernel
theorem dX4_isOn_18 : decode cX4_isOn 18 = .ok (.iconst 0, 1) := by decide +kernel
theorem dX4_isOn_19 : decode cX4_isOn 19 = .ok (.istore 6, 2) := by decide +kernel
theorem dX4_isOn_21 : decode cX4_isOn 21 = .ok (.iload_n 0, 1) := by decide +kernel
theorem dX4_isOn_22 : decode cX4_isOn 22 = .ok (.iload_n 2, 1) := by decide +kernel
theorem dX4_isOn_23 : decode cX4_isOn 23 = .ok (.if_icmp .ge 23, 3) := by decide +kernel
theorem dX4_isOn_26 : decode cX4_isOn 26 = .ok (.iload 4, 2) := by decide +kernel
theorem dX4_isOn_28 : decode cX4_isOn 28 = .ok (.iload_n 0, 1) := by decide +kernel
theorem dX4_isOn_29 : decode cX4_isOn 29 = .ok (.if_icmp .lt 13, 3) := by decide +kernel
theorem dX4_isOn_32 : decode cX4_isOn 32 = .ok (.iload 4, 2) := by decide +kernel
theorem dX4_isOn_34 : decode cX4_isOn 34 = .ok (.iload_n 2, 1) := by decide +kernel
theorem dX4_isOn_35 : decode cX4_isOn 35 = .ok (.if_icmp .gt 7, 3) := by decide +kernel
theorem dX4_isOn_38 : decode cX4_isOn 38 = .ok (.iconst 1, 1) := by decide +kernel
theorem dX4_isOn_39 : decode cX4_isOn 39 = .ok (.goto 24, 3) := by decide +kernel
theorem dX4_isOn_42 : decode cX4_isOn 42 = .ok (.iconst 0, 1) := by decide +kernel
theorem dX4_isOn_43 : decode cX4_isOn 43 = .ok (.goto 20, 3) := by decide +kernel
theorem dX4_isOn_46 : decode cX4_isOn 46 = .ok (.iload 4, 2) := by decide +kernel
theorem dX4_isOn_48 : decode cX4_isOn 48 = .ok (.iload_n 2, 1) := by decide +kernel
theorem dX4_isOn_49 : decode cX4_isOn 49 = .ok (.if_icmp .lt 13, 3) := by decide +kernel
theorem dX4_isOn_52 : decode cX4_isOn 52 = .ok (.iload 4, 2) := by decide +kernel
theorem dX4_isOn_54 : decode cX4_isOn 54 = .ok (.iload_n 0, 1) := by decide +kernel
theorem dX4_isOn_55 : decode cX4_isOn 55 = .ok (.if_icmp .gt 7, 3) := by decide +kernel
theorem dX4_isOn_58 : decode cX4_isOn 58 = .ok (.iconst 1, 1) := by decide +kernel
theorem dX4_isOn_59 : decode cX4_isOn 59 = .ok (.goto 4, 3) := by decide +kernel
theorem dX4_isOn_62 : decode cX4_isOn 62 = .ok (.iconst 0, 1) := by decide +kernel
theorem dX4_isOn_63 : decode cX4_isOn 63 = .ok (.istore 7, 2) := by decide +kernel
theorem dX4_isOn_65 : decode cX4_isOn 65 = .ok (.iload_n 1, 1) := by decide +kernel
theorem dX4_isOn_66 : decode cX4_isOn 66 = .ok (.iload_n 3, 1) := by decide +kernel
theorem dX4_isOn_67 : decode cX4_isOn 67 = .ok (.if_icmp .ge 23, 3) := by decide +kernel
theorem dX4_isOn_70 : decode cX4_isOn 70 = .ok (.iload 5, 2) := by decide +kernel
theorem dX4_isOn_72 : decode cX4_isOn 72 = .ok (.iload_n 1, 1) := by decide +kernel
theorem dX4_isOn_73 : decode cX4_isOn 73 = .ok (.if_icmp .lt 13, 3) := by decide +kernel
theorem dX4_isOn_76 : decode cX4_isOn 76 = .ok (.iload 5, 2) := by decide +kernel
theorem dX4_isOn_78 : decode cX4_isOn 78 = .ok (.iload_n 3, 1) := by decide +kernel
theorem dX4_isOn_79 : decode cX4_isOn 79 = .ok (.if_icmp .gt 7, 3) := by decide +kernel
theorem dX4_isOn_82 : decode cX4_isOn 82 = .ok (.iconst 1, 1) := by decide +kernel
theorem dX4_isOn_83 : decode cX4_isOn 83 = .ok (.goto 24, 3) := by decide +kernel
theorem dX4_isOn_86 : decode cX4_isOn 86 = .ok (.iconst 0, 1) := by decide +kernel
theorem dX4_isOn_87 : decode cX4_isOn 87 = .ok (.goto 20, 3) := by decide +kernel
theorem dX4_isOn_90 : decode cX4_isOn 90 = .ok (.iload 5, 2) := by decide +kernel
theorem dX4_isOn_92 : decode cX4_isOn 92 = .ok (.iload_n 3, 1) := by decide +kernel
theorem dX4_isOn_93 : decode cX4_isOn 93 = .ok (.if_icmp .lt 13, 3) := by decide +kernel
theorem dX4_isOn_96 : decode cX4_isOn 96 = .ok (.iload 5, 2) := by decide +kernel
theorem dX4_isOn_98 : decode cX4_isOn 98 = .ok (.iload_n 1, 1) := by decide +kernel
theorem dX4_isOn_99 : decode cX4_isOn 99 = .ok (.if_icmp .gt 7, 3) := by decide +kernel
theorem dX4_isOn_102 : decode cX4_isOn 102 = .ok (.iconst 1, 1) := by decide +kernel
theorem dX4_isOn_103 : decode cX4_isOn 103 = .ok (.goto 4, 3) := by decide +kernel
theorem dX4_isOn_106 : decode cX4_isOn 106 = .ok (.iconst 0, 1) := by decide +kernel
theorem dX4_isOn_107 : decode cX4_isOn 107 = .ok (.istore 8, 2) := by decide +kernel
theorem dX4_isOn_109 : decode cX4_isOn 109 = .ok (.iload 6, 2) := by decide +kernel
theorem dX4_isOn_111 : decode cX4_isOn 111 = .ok (.ifCond .eq 17, 3) := by decide +kernel
theorem dX4_isOn_114 : decode cX4_isOn 114 = .ok (.iload 7, 2) := by decide +kernel
theorem dX4_isOn_116 : decode cX4_isOn 116 = .ok (.ifCond .eq 12, 3) := by decide +kernel
theorem dX4_isOn_119 : decode cX4_isOn 119 = .ok (.iload 8, 2) := by decide +kernel
theorem dX4_isOn_121 : decode cX4_isOn 121 = .ok (.ifCond .eq 7, 3) := by decide +kernel
theorem dX4_isOn_124 : decode cX4_isOn 124 = .ok (.iconst 1, 1) := by decide +kernel
theorem dX4_isOn_125 : decode cX4_isOn 125 = .ok (.goto 4, 3) := by decide +kernel
theorem dX4_isOn_128 : decode cX4_isOn 128 = .ok (.iconst 0, 1) := by decide +kernel
theorem dX4_isOn_129 : decode cX4_isOn 129 = .ok (.ireturn, 1) := by decide +kernel
theorem dX4_isEnd_0 : decode cX4_isEnd 0 = .ok (.aload_n 0, 1) := by decide +kernel
theorem dX4_isEnd_1 : decode cX4_isEnd 1 = .ok (.getfield 13, 3) := by decide +kernel
theorem dX4_isEnd_4 : decode cX4_isEnd 4 = .ok (.iconst 2, 1) := by decide +kernel
theorem dX4_isEnd_5 : decode cX4_isEnd 5 = .ok (.iload_n 1, 1) := by decide +kernel
theorem dX4_isEnd_6 : decode cX4_isEnd 6 = .ok (.imul, 1) := by decide +kernel
theorem dX4_isEnd_7 : decode cX4_isEnd 7 = .ok (.iaload, 1) := by decide +kernel
theorem dX4_isEnd_8 : decode cX4_isEnd 8 = .ok (.iload_n 2, 1) := by decide +kernel
theorem dX4_isEnd_9 : decode cX4_isEnd 9 = .ok (.if_icmp .ne 15, 3) := by decide +kernel
theorem dX4_isEnd_12 : decode cX4_isEnd 12 = .ok (.aload_n 0, 1) := by decide +kernel
theorem dX4_isEnd_13 : decode cX4_isEnd 13 = .ok (.getfield 17, 3) := by decide +kernel
theorem dX4_isEnd_16 : decode cX4_isEnd 16 = .ok (.iconst 2, 1) := by decide +kernel
theorem dX4_isEnd_17 : decode cX4_isEnd 17 = .ok (.iload_n 1, 1) := by decide +kernel
theorem dX4_isEnd_18 : decode cX4_isEnd 18 = .ok (.imul, 1) := by decide +kernel
theorem dX4_isEnd_19 : decode cX4_isEnd 19 = .ok (.iaload, 1) := by decide +kernel
theorem dX4_isEnd_20 : decode cX4_isEnd 20 = .ok (.iload_n 3, 1) := by decide +kernel
theorem dX4_isEnd_21 : decode cX4_isEnd 21 = .ok (.if_icmp .eq 31, 3) := by decide +kernel
theorem dX4_isEnd_24 : decode cX4_isEnd 24 = .ok (.aload_n 0, 1) := by decide +kernel
theorem dX4_isEnd_25 : decode cX4_isEnd 25 = .ok (.getfield 13, 3) := by decide +kernel
theorem dX4_isEnd_28 : decode cX4_isEnd 28 = .ok (.iconst 2, 1) := by decide +kernel
theorem dX4_isEnd_29 : decode cX4_isEnd 29 = .ok (.iload_n 1, 1) := by decide +kernel
theorem dX4_isEnd_30 : decode cX4_isEnd 30 = .ok (.imul, 1) := by decide +kernel
theorem dX4_isEnd_31 : decode cX4_isEnd 31 = .ok (.iconst 1, 1) := by decide +kernel
theorem dX4_isEnd_32 : decode cX4_isEnd 32 = .ok (.iadd, 1) := by decide +kernel
theorem dX4_isEnd_33 : decode cX4_isEnd 33 = .ok (.iaload, 1) := by decide +kernel
theorem dX4_isEnd_34 : decode cX4_isEnd 34 = .ok (.iload_n 2, 1) := by decide +kernel
theorem dX4_isEnd_35 : decode cX4_isEnd 35 = .ok (.if_icmp .ne 21, 3) := by decide +kernel
theorem dX4_isEnd_38 : decode cX4_isEnd 38 = .ok (.aload_n 0, 1) := by decide +kernel
theorem dX4_isEnd_39 : decode cX4_isEnd 39 = .ok (.getfield 17, 3) := by decide +kernel
theorem dX4_isEnd_42 : decode cX4_isEnd 42 = .ok (.iconst 2, 1) := by decide +kernel
theorem dX4_isEnd_43 : decode cX4_isEnd 43 = .ok (.iload_n 1, 1) := by decide +kernel
theorem dX4_isEnd_44 : decode cX4_isEnd 44 = .ok (.imul, 1) := by decide +kernel
theorem dX4_isEnd_45 : decode cX4_isEnd 45 = .ok (.iconst 1, 1) := by decide +kernel
theorem dX4_isEnd_46 : decode cX4_isEnd 46 = .ok (.iadd, 1) := by decide +kernel
theorem dX4_isEnd_47 : decode cX4_isEnd 47 = .ok (.iaload, 1) := by decide +kernel
theorem dX4_isEnd_48 : decode cX4_isEnd 48 = .ok (.iload_n 3, 1) := by decide +kernel
theorem dX4_isEnd_49 : decode cX4_isEnd 49 = .ok (.if_icmp .ne 7, 3) := by decide +kernel
theorem dX4_isEnd_52 : decode cX4_isEnd 52 = .ok (.iconst 1, 1) := by decide +kernel
theorem dX4_isEnd_53 : decode cX4_isEnd 53 = .ok (.goto 4, 3) := by decide +kernel
theorem dX4_isEnd_56 : decode cX4_isEnd 56 = .ok (.iconst 0, 1) := by decide +kernel
theorem dX4_isEnd_57 : decode cX4_isEnd 57 = .ok (.ireturn, 1) := by decide +kernel
set_option maxRecDepth 20000 in
theorem ggX4_meets_X4_isEnd : GoodIn wsX4_meets wsX4_isEnd := goodIn_r _ [7, 1, 2, 17, 18, 19, 20, 21, 22, 23, 24, 25, 26, 27, 28, 29, 30, 31, 32] (by decide +kernel) (by decide +kernel)
set_option maxRecDepth 20000 in
theorem gX4_meets_X4_isEnd : GoodIn wsX4_meets (wsV RX4 57 RX4 yX4_isEnd wsX4_isEnd) := goodIn_app (goodIn_of _ (by decide +kernel)) ggX4_meets_X4_isEnd
set_option maxRecDepth 20000 in
theorem ggX4_meets_X4_isOn : GoodIn wsX4_meets wsX4_isOn := goodIn_r _ [10, 11, 12, 6, 13, 14, 15, 16] (by decide +kernel) (by decide +kernel)
set_option maxRecDepth 20000 in
theorem gX4_meets_X4_isOn : GoodIn wsX4_meets (va_wsS RX4 61 yX4_isOn wsX4_isOn) := goodIn_app (goodIn_of _ (by decide +kernel)) ggX4_meets_X4_isOn
set_option maxRecDepth 20000 in
theorem ggX4_meets_X4_side : GoodIn wsX4_meets wsX4_side := goodIn_r _ [13, 14, 15, 6, 16] (by decide +kernel) (by decide +kernel)
set_option maxRecDepth 20000 in
theorem gX4_meets_X4_side : GoodIn wsX4_meets (va_wsS RX4 53 yX4_side wsX4_side) := goodIn_app (goodIn_of _ (by decide +kernel)) ggX4_meets_X4_side
theorem dX4_meets_0 : decode cX4_meets 0 = .ok (.aload_n 0, 1) := by decide +kernel
theorem dX4_meets_1 : decode cX4_meets 1 = .ok (.getfield 13, 3) := by decide +kernel
theorem dX4_meets_4 : decode cX4_meets 4 = .ok (.iconst 2, 1) := by decide +kernel
theorem dX4_meets_5 : decode cX4_meets 5 = .ok (.iload_n 1, 1) := by decide +kernel
theorem dX4_meets_6 : decode cX4_meets 6 = .ok (.imul, 1) := by decide +kernel
theorem dX4_meets_7 : decode cX4_meets 7 = .ok (.iaload, 1) := by decide +kernel
theorem dX4_meets_8 : decode cX4_meets 8 = .ok (.istore 6, 2) := by decide +kernel
theorem dX4_meets_10 : decode cX4_meets 10 = .ok (.aload_n 0, 1) := by decide +kernel
theorem dX4_meets_11 : decode cX4_meets 11 = .ok (.getfield 17, 3) := by decide +kernel
theorem dX4_meets_14 : decode cX4_meets 14 = .ok (.iconst 2, 1) := by decide +kernel
theorem dX4_meets_15 : decode cX4_meets 15 = .ok (.iload_n 1, 1) := by decide +kernel
theorem dX4_meets_16 : decode cX4_meets 16 = .ok (.imul, 1) := by decide +kernel
theorem dX4_meets_17 : decode cX4_meets 17 = .ok (.iaload, 1) := by decide +kernel
theorem dX4_meets_18 : decode cX4_meets 18 = .ok (.istore 7, 2) := by decide +kernel
theorem dX4_meets_20 : decode cX4_meets 20 = .ok (.aload_n 0, 1) := by decide +kernel
theorem dX4_meets_21 : decode cX4_meets 21 = .ok (.getfield 13, 3) := by decide +kernel
theorem dX4_meets_24 : decode cX4_meets 24 = .ok (.iconst 2, 1) := by decide +kernel
theorem dX4_meets_25 : decode cX4_meets 25 = .ok (.iload_n 1, 1) := by decide +kernel
theorem dX4_meets_26 : decode cX4_meets 26 = .ok (.imul, 1) := by decide +kernel
theorem dX4_meets_27 : decode cX4_meets 27 = .ok (.iconst 1, 1) := by decide +kernel
theorem dX4_meets_28 : decode cX4_meets 28 = .ok (.iadd, 1) := by decide +kernel
theorem dX4_meets_29 : decode cX4_meets 29 = .ok (.iaload, 1) := by decide +kernel
theorem dX4_meets_30 : decode cX4_meets 30 = .ok (.istore 8, 2) := by decide +kernel
theorem dX4_meets_32 : decode cX4_meets 32 = .ok (.aload_n 0, 1) := by decide +kernel
theorem dX4_meets_33 : decode cX4_meets 33 = .ok (.getfield 17, 3) := by decide +kernel
theorem dX4_meets_36 : decode cX4_meets 36 = .ok (.iconst 2, 1) := by decide +kernel
theorem dX4_meets_37 : decode cX4_meets 37 = .ok (.iload_n 1, 1) := by decide +kernel
theorem dX4_meets_38 : decode cX4_meets 38 = .ok (.imul, 1) := by decide +kernel
theorem dX4_meets_39 : decode cX4_meets 39 = .ok (.iconst 1, 1) := by decide +kernel
theorem dX4_meets_40 : decode cX4_meets 40 = .ok (.iadd, 1) := by decide +kernel
theorem dX4_meets_41 : decode cX4_meets 41 = .ok (.iaload, 1) := by decide +kernel
theorem dX4_meets_42 : decode cX4_meets 42 = .ok (.istore 9, 2) := by decide +kernel
theorem dX4_meets_44 : decode cX4_meets 44 = .ok (.aload_n 0, 1) := by decide +kernel
theorem dX4_meets_45 : decode cX4_meets 45 = .ok (.iload_n 1, 1) := by decide +kernel
theorem dX4_meets_46 : decode cX4_meets 46 = .ok (.iload_n 2, 1) := by decide +kernel
theorem dX4_meets_47 : decode cX4_meets 47 = .ok (.iload_n 3, 1) := by decide +kernel
theorem dX4_meets_48 : decode cX4_meets 48 = .ok (.invokevirtual 57, 3) := by decide +kernel
theorem dX4_meets_51 : decode cX4_meets 51 = .ok (.ifCond .eq 17, 3) := by decide +kernel
theorem dX4_meets_54 : decode cX4_meets 54 = .ok (.aload_n 0, 1) := by decide +kernel
theorem dX4_meets_55 : decode cX4_meets 55 = .ok (.iload_n 1, 1) := by decide +kernel
theorem dX4_meets_56 : decode cX4_meets 56 = .ok (.iload 4, 2) := by decide +kernel
theorem dX4_meets_58 : decode cX4_meets 58 = .ok (.iload 5, 2) := by decide +kernel
theorem dX4_meets_60 : decode cX4_meets 60 = .ok (.invokevirtual 57, 3) := by decide +kernel
theorem dX4_meets_63 : decode cX4_meets 63 = .ok (.ifCond .eq 5, 3) := by decide +kernel
theorem dX4_meets_66 : decode cX4_meets 66 = .ok (.iconst 1, 1) := by decide +kernel
theorem dX4_meets_67 : decode cX4_meets 67 = .ok (.ireturn, 1) := by decide +kernel
theorem dX4_meets_68 : decode cX4_meets 68 = .ok (.iload_n 2, 1) := by decide +kernel
theorem dX4_meets_69 : decode cX4_meets 69 = .ok (.iload_n 3, 1) := by decide +kernel
theorem dX4_meets_70 : decode cX4_meets 70 = .ok (.iload 4, 2) := by decide +kernel
theorem dX4_meets_72 : decode cX4_meets 72 = .ok (.iload 5, 2) := by decide +kernel
theorem dX4_meets_74 : decode cX4_meets 74 = .ok (.iload 6, 2) := by decide +kernel
theorem dX4_meets_76 : decode cX4_meets 76 = .ok (.iload 7, 2) := by decide +kernel
theorem dX4_meets_78 : decode cX4_meets 78 = .ok (.invokestatic 61, 3) := by decide +kernel
theorem dX4_meets_81 : decode cX4_meets 81 = .ok (.ifCond .eq 31, 3) := by decide +kernel
theorem dX4_meets_84 : decode cX4_meets 84 = .ok (.iload 6, 2) := by decide +kernel
theorem dX4_meets_86 : decode cX4_meets 86 = .ok (.iload_n 2, 1) := by decide +kernel
theorem dX4_meets_87 : decode cX4_meets 87 = .ok (.if_icmp .ne 9, 3) := by decide +kernel
theorem dX4_meets_90 : decode cX4_meets 90 = .ok (.iload 7, 2) := by decide +kernel
theorem dX4_meets_92 : decode cX4_meets 92 = .ok (.iload_n 3, 1) := by decide +kernel
theorem dX4_meets_93 : decode cX4_meets 93 = .ok (.if_icmp .eq 19, 3) := by decide +kernel
theorem dX4_meets_96 : decode cX4_meets 96 = .ok (.iload 6, 2) := by decide +kernel
theorem dX4_meets_98 : decode cX4_meets 98 = .ok (.iload 4, 2) := by decide +kernel
theorem dX4_meets_100 : decode cX4_meets 100 = .ok (.if_icmp .ne 10, 3) := by decide +kernel
theorem dX4_meets_103 : decode cX4_meets 103 = .ok (.iload 7, 2) := by decide +kernel
theorem dX4_meets_105 : decode cX4_meets 105 = .ok (.iload 5, 2) := by decide +kernel
theorem dX4_meets_107 : decode cX4_meets 107 = .ok (.if_icmp .eq 5, 3) := by decide +kernel
theorem dX4_meets_110 : decode cX4_meets 110 = .ok (.iconst 1, 1) := by decide +kernel
theorem dX4_meets_111 : decode cX4_meets 111 = .ok (.ireturn, 1) := by decide +kernel
theorem dX4_meets_112 : decode cX4_meets 112 = .ok (.iload_n 2, 1) := by decide +kernel
theorem dX4_meets_113 : decode cX4_meets 113 = .ok (.iload_n 3, 1) := by decide +kernel
theorem dX4_meets_114 : decode cX4_meets 114 = .ok (.iload 4, 2) := by decide +kernel
theorem dX4_meets_116 : decode cX4_meets 116 = .ok (.iload 5, 2) := by decide +kernel
theorem dX4_meets_118 : decode cX4_meets 118 = .ok (.iload 8, 2) := by decide +kernel
theorem dX4_meets_120 : decode cX4_meets 120 = .ok (.iload 9, 2) := by decide +kernel
theorem dX4_meets_122 : decode cX4_meets 122 = .ok (.invokestatic 61, 3) := by decide +kernel
theorem dX4_meets_125 : decode cX4_meets 125 = .ok (.ifCond .eq 31, 3) := by decide +kernel
theorem dX4_meets_128 : decode cX4_meets 128 = .ok (.iload 8, 2) := by decide +kernel
theorem dX4_meets_130 : decode cX4_meets 130 = .ok (.iload_n 2, 1) := by decide +kernel
theorem dX4_meets_131 : decode cX4_meets 131 = .ok (.if_icmp .ne 9, 3) := by decide +kernel
theorem dX4_meets_134 : decode cX4_meets 134 = .ok (.iload 9, 2) := by decide +kernel
theorem dX4_meets_136 : decode cX4_meets 136 = .ok (.iload_n 3, 1) := by decide +kernel
theorem dX4_meets_137 : decode cX4_meets 137 = .ok (.if_icmp .eq 19, 3) := by decide +kernel
theorem dX4_meets_140 : decode cX4_meets 140 = .ok (.iload 8, 2) := by decide +kernel
theorem dX4_meets_142 : decode cX4_meets 142 = .ok (.iload 4, 2) := by decide +kernel
theorem dX4_meets_144 : decode cX4_meets 144 = .ok (.if_icmp .ne 10, 3) := by decide +kernel
theorem dX4_meets_147 : decode cX4_meets 147 = .ok (.iload 9, 2) := by decide +kernel
theorem dX4_meets_149 : decode cX4_meets 149 = .ok (.iload 5, 2) := by decide +kernel
theorem dX4_meets_151 : decode cX4_meets 151 = .ok (.if_icmp .eq 5, 3) := by decide +kernel
theorem dX4_meets_154 : decode cX4_meets 154 = .ok (.iconst 1, 1) := by decide +kernel
theorem dX4_meets_155 : decode cX4_meets 155 = .ok (.ireturn, 1) := by decide +kernel
theorem dX4_meets_156 : decode cX4_meets 156 = .ok (.iload 6, 2) := by decide +kernel
theorem dX4_meets_158 : decode cX4_meets 158 = .ok (.iload 7, 2) := by decide +kernel
theorem dX4_meets_160 : decode cX4_meets 160 = .ok (.iload 8, 2) := by decide +kernel
theorem dX4_meets_162 : decode cX4_meets 162 = .ok (.iload 9, 2) := by decide +kernel
theorem dX4_meets_164 : decode cX4_meets 164 = .ok (.iload_n 2, 1) := by decide +kernel
theorem dX4_meets_165 : decode cX4_meets 165 = .ok (.iload_n 3, 1) := by decide +kernel
theorem dX4_meets_166 : decode cX4_meets 166 = .ok (.invokestatic 61, 3) := by decide +kernel
theorem dX4_meets_169 : decode cX4_meets 169 = .ok (.ifCond .eq 13, 3) := by decide +kernel
theorem dX4_meets_172 : decode cX4_meets 172 = .ok (.aload_n 0, 1) := by decide +kernel
theorem dX4_meets_173 : decode cX4_meets 173 = .ok (.iload_n 1, 1) := by decide +kernel
theorem dX4_meets_174 : decode cX4_meets 174 = .ok (.iload_n 2, 1) := by decide +kernel
theorem dX4_meets_175 : decode cX4_meets 175 = .ok (.iload_n 3, 1) := by decide +kernel
theorem dX4_meets_176 : decode cX4_meets 176 = .ok (.invokevirtual 57, 3) := by decide +kernel
theorem dX4_meets_179 : decode cX4_meets 179 = .ok (.ifCond .eq 33, 3) := by decide +kernel
theorem dX4_meets_182 : decode cX4_meets 182 = .ok (.iload 6, 2) := by decide +kernel
theorem dX4_meets_184 : decode cX4_meets 184 = .ok (.iload 7, 2) := by decide +kernel
theorem dX4_meets_186 : decode cX4_meets 186 = .ok (.iload 8, 2) := by decide +kernel
theorem dX4_meets_188 : decode cX4_meets 188 = .ok (.iload 9, 2) := by decide +kernel
theorem dX4_meets_190 : decode cX4_meets 190 = .ok (.iload 4, 2) := by decide +kernel
theorem dX4_meets_192 : decode cX4_meets 192 = .ok (.iload 5, 2) := by decide +kernel
theorem dX4_meets_194 : decode cX4_meets 194 = .ok (.invokestatic 61, 3) := by decide +kernel
theorem dX4_meets_197 : decode cX4_meets 197 = .ok (.ifCond .eq 17, 3) := by decide +kernel
theorem dX4_meets_200 : decode cX4_meets 200 = .ok (.aload_n 0, 1) := by decide +kernel
theorem dX4_meets_201 : decode cX4_meets 201 = .ok (.iload_n 1, 1) := by decide +kernel
theorem dX4_meets_202 : decode cX4_meets 202 = .ok (.iload 4, 2) := by decide +kernel
theorem dX4_meets_204 : decode cX4_meets 204 = .ok (.iload 5, 2) := by decide +kernel
theorem dX4_meets_206 : decode cX4_meets 206 = .ok (.invokevirtual 57, 3) := by decide +kernel
theorem dX4_meets_209 : decode cX4_meets 209 = .ok (.ifCond .ne 5, 3) := by decide +kernel
theorem dX4_meets_212 : decode cX4_meets 212 = .ok (.iconst 1, 1) := by decide +kernel
theorem dX4_meets_213 : decode cX4_meets 213 = .ok (.ireturn, 1) := by decide +kernel
theorem dX4_meets_214 : decode cX4_meets 214 = .ok (.iload_n 2, 1) := by decide +kernel
theorem dX4_meets_215 : decode cX4_meets 215 = .ok (.iload_n 3, 1) := by decide +kernel
theorem dX4_meets_216 : decode cX4_meets 216 = .ok (.iload 4, 2) := by decide +kernel
theorem dX4_meets_218 : decode cX4_meets 218 = .ok (.iload 5, 2) := by decide +kernel
theorem dX4_meets_220 : decode cX4_meets 220 = .ok (.iload 6, 2) := by decide +kernel
theorem dX4_meets_222 : decode cX4_meets 222 = .ok (.iload 7, 2) := by decide +kernel
theorem dX4_meets_224 : decode cX4_meets 224 = .ok (.invokestatic 53, 3) := by decide +kernel
theorem dX4_meets_227 : decode cX4_meets 227 = .ok (.iload_n 2, 1) := by decide +kernel
theorem dX4_meets_228 : decode cX4_meets 228 = .ok (.iload_n 3, 1) := by decide +kernel
theorem dX4_meets_229 : decode cX4_meets 229 = .ok (.iload 4, 2) := by decide +kernel
theorem dX4_meets_231 : decode cX4_meets 231 = .ok (.iload 5, 2) := by decide +kernel
theorem dX4_meets_233 : decode cX4_meets 233 = .ok (.iload 8, 2) := by decide +kernel
theorem dX4_meets_235 : decode cX4_meets 235 = .ok (.iload 9, 2) := by decide +kernel
theorem dX4_meets_237 : decode cX4_meets 237 = .ok (.invokestatic 53, 3) := by decide +kernel
theorem dX4_meets_240 : decode cX4_meets 240 = .ok (.imul, 1) := by decide +kernel
theorem dX4_meets_241 : decode cX4_meets 241 = .ok (.ifCond .ge 39, 3) := by decide +kernel
theorem dX4_meets_244 : decode cX4_meets 244 = .ok (.iload 6, 2) := by decide +kernel
theorem dX4_meets_246 : decode cX4_meets 246 = .ok (.iload 7, 2) := by decide +kernel
theorem dX4_meets_248 : decode cX4_meets 248 = .ok (.iload 8, 2) := by decide +kernel
theorem dX4_meets_250 : decode cX4_meets 250 = .ok (.iload 9, 2) := by decide +kernel
theorem dX4_meets_252 : decode cX4_meets 252 = .ok (.iload_n 2, 1) := by decide +kernel
theorem dX4_meets_253 : decode cX4_meets 253 = .ok (.iload_n 3, 1) := by decide +kernel
theorem dX4_meets_254 : decode cX4_meets 254 = .ok (.invokestatic 53, 3) := by decide +kernel
theorem dX4_meets_257 : decode cX4_meets 257 = .ok (.iload 6, 2) := by decide +kernel
theorem dX4_meets_259 : decode cX4_meets 259 = .ok (.iload 7, 2) := by decide +kernel
theorem dX4_meets_261 : decode cX4_meets 261 = .ok (.iload 8, 2) := by decide +kernel
theorem dX4_meets_263 : decode cX4_meets 263 = .ok (.iload 9, 2) := by decide +kernel
theorem dX4_meets_265 : decode cX4_meets 265 = .ok (.iload 4, 2) := by decide +kernel
theorem dX4_meets_267 : decode cX4_meets 267 = .ok (.iload 5, 2) := by decide +kernel
theorem dX4_meets_269 : decode cX4_meets 269 = .ok (.invokestatic 53, 3) := by decide +kernel
theorem dX4_meets_272 : decode cX4_meets 272 = .ok (.imul, 1) := by decide +kernel
theorem dX4_meets_273 : decode cX4_meets 273 = .ok (.ifCond .ge 7, 3) := by decide +kernel
theorem dX4_meets_276 : decode cX4_meets 276 = .ok (.iconst 1, 1) := by decide +kernel
theorem dX4_meets_277 : decode cX4_meets 277 = .ok (.goto 4, 3) := by decide +kernel
theorem dX4_meets_280 : decode cX4_meets 280 = .ok (.iconst 0, 1) := by decide +kernel
theorem dX4_meets_281 : decode cX4_meets 281 = .ok (.ireturn, 1) := by decide +kernel
set_option maxRecDepth 20000 in
theorem ggX4_add_X4_isIn : GoodIn wsX4_add wsX4_isIn := goodIn_r _ [8] (by decide +kernel) (by decide +kernel)
set_option maxRecDepth 20000 in
theorem gX4_add_X4_isIn : GoodIn wsX4_add (va_wsS RX4 65 yX4_isIn wsX4_isIn) := goodIn_app (goodIn_of _ (by decide +kernel)) ggX4_add_X4_isIn
set_option maxRecDepth 20000 in
theorem ggX4_add_X4_refused : GoodIn wsX4_add wsX4_refused := goodIn_r _ [12, 13, 31, 32, 33, 34, 35, 36, 37, 38, 39, 40, 41, 42, 43, 44, 45, 46] (by decide +kernel) (by decide +kernel)
set_option maxRecDepth 20000 in
theorem gX4_add_X4_refused : GoodIn wsX4_add (wsV RX4 69 RX4 yX4_refused wsX4_refused) := goodIn_app (goodIn_of _ (by decide +kernel)) ggX4_add_X4_refused
set_option maxRecDepth 20000 in
theorem ggX4_add_X4_meets : GoodIn wsX4_add wsX4_meets := goodIn_r _ [17, 2, 3, 18, 19, 20, 7, 21, 22, 23, 24, 25, 26, 27, 28, 29, 30, 31, 32, 33, 34, 35, 36, 37, 38, 39, 40, 41, 42, 43, 44, 45, 46] (by decide +kernel) (by decide +kernel)
set_option maxRecDepth 20000 in
theorem gX4_add_X4_meets : GoodIn wsX4_add (wsV RX4 72 RX4 yX4_meets wsX4_meets) := goodIn_app (goodIn_of _ (by decide +kernel)) ggX4_add_X4_meets
theorem dX4_add_0 : decode cX4_add 0 = .ok (.iload_n 1, 1) := by decide +kernel
theorem dX4_add_1 : decode cX4_add 1 = .ok (.invokestatic 65, 3) := by decide +kernel
theorem dX4_add_4 : decode cX4_add 4 = .ok (.ifCond .eq 40, 3) := by decide +kernel
theorem dX4_add_7 : decode cX4_add 7 = .ok (.iload_n 2, 1) := by decide +kernel
theorem dX4_add_8 : decode cX4_add 8 = .ok (.invokestatic 65, 3) := by decide +kernel
theorem dX4_add_11 : decode cX4_add 11 = .ok (.ifCond .eq 33, 3) := by decide +kernel
theorem dX4_add_14 : decode cX4_add 14 = .ok (.iload_n 3, 1) := by decide +kernel
theorem dX4_add_15 : decode cX4_add 15 = .ok (.invokestatic 65, 3) := by decide +kernel
theorem dX4_add_18 : decode cX4_add 18 = .ok (.ifCond .eq 26, 3) := by decide +kernel
theorem dX4_add_21 : decode cX4_add 21 = .ok (.iload 4, 2) := by decide +kernel
theorem dX4_add_23 : decode cX4_add 23 = .ok (.invokestatic 65, 3) := by decide +kernel
theorem dX4_add_26 : decode cX4_add 26 = .ok (.ifCond .eq 18, 3) := by decide +kernel
theorem dX4_add_29 : decode cX4_add 29 = .ok (.iload_n 1, 1) := by decide +kernel
theorem dX4_add_30 : decode cX4_add 30 = .ok (.iload_n 3, 1) := by decide +kernel
theorem dX4_add_31 : decode cX4_add 31 = .ok (.if_icmp .ne 9, 3) := by decide +kernel
theorem dX4_add_34 : decode cX4_add 34 = .ok (.iload_n 2, 1) := by decide +kernel
theorem dX4_add_35 : decode cX4_add 35 = .ok (.iload 4, 2) := by decide +kernel
theorem dX4_add_37 : decode cX4_add 37 = .ok (.if_icmp .eq 7, 3) := by decide +kernel
theorem dX4_add_40 : decode cX4_add 40 = .ok (.iconst 1, 1) := by decide +kernel
theorem dX4_add_41 : decode cX4_add 41 = .ok (.goto 4, 3) := by decide +kernel
theorem dX4_add_44 : decode cX4_add 44 = .ok (.iconst 0, 1) := by decide +kernel
theorem dX4_add_45 : decode cX4_add 45 = .ok (.istore 5, 2) := by decide +kernel
theorem dX4_add_47 : decode cX4_add 47 = .ok (.iconst (-1), 1) := by decide +kernel
theorem dX4_add_48 : decode cX4_add 48 = .ok (.istore 6, 2) := by decide +kernel
theorem dX4_add_50 : decode cX4_add 50 = .ok (.bipush 59, 2) := by decide +kernel
theorem dX4_add_52 : decode cX4_add 52 = .ok (.istore 7, 2) := by decide +kernel
theorem dX4_add_54 : decode cX4_add 54 = .ok (.iload 7, 2) := by decide +kernel
theorem dX4_add_56 : decode cX4_add 56 = .ok (.ifCond .lt 28, 3) := by decide +kernel
theorem dX4_add_59 : decode cX4_add 59 = .ok (.aload_n 0, 1) := by decide +kernel
theorem dX4_add_60 : decode cX4_add 60 = .ok (.getfield 7, 3) := by decide +kernel
theorem dX4_add_63 : decode cX4_add 63 = .ok (.iload 7, 2) := by decide +kernel
theorem dX4_add_65 : decode cX4_add 65 = .ok (.baload, 1) := by decide +kernel
theorem dX4_add_66 : decode cX4_add 66 = .ok (.ifCond .eq 8, 3) := by decide +kernel
theorem dX4_add_69 : decode cX4_add 69 = .ok (.iload 6, 2) := by decide +kernel
theorem dX4_add_71 : decode cX4_add 71 = .ok (.goto 5, 3) := by decide +kernel
theorem dX4_add_74 : decode cX4_add 74 = .ok (.iload 7, 2) := by decide +kernel
theorem dX4_add_76 : decode cX4_add 76 = .ok (.istore 6, 2) := by decide +kernel
theorem dX4_add_78 : decode cX4_add 78 = .ok (.iinc 7 (-1), 3) := by decide +kernel
theorem dX4_add_81 : decode cX4_add 81 = .ok (.goto (-27), 3) := by decide +kernel
theorem dX4_add_84 : decode cX4_add 84 = .ok (.aload_n 0, 1) := by decide +kernel
theorem dX4_add_85 : decode cX4_add 85 = .ok (.iload 5, 2) := by decide +kernel
theorem dX4_add_87 : decode cX4_add 87 = .ok (.ifCond .ne 7, 3) := by decide +kernel
theorem dX4_add_90 : decode cX4_add 90 = .ok (.iconst 1, 1) := by decide +kernel
theorem dX4_add_91 : decode cX4_add 91 = .ok (.goto 13, 3) := by decide +kernel
theorem dX4_add_94 : decode cX4_add 94 = .ok (.iload 6, 2) := by decide +kernel
theorem dX4_add_96 : decode cX4_add 96 = .ok (.ifCond .ge 7, 3) := by decide +kernel
theorem dX4_add_99 : decode cX4_add 99 = .ok (.iconst 2, 1) := by decide +kernel
theorem dX4_add_100 : decode cX4_add 100 = .ok (.goto 4, 3) := by decide +kernel
theorem dX4_add_103 : decode cX4_add 103 = .ok (.iconst 0, 1) := by decide +kernel
theorem dX4_add_104 : decode cX4_add 104 = .ok (.invokevirtual 69, 3) := by decide +kernel
theorem dX4_add_107 : decode cX4_add 107 = .ok (.ifCond .eq 5, 3) := by decide +kernel
theorem dX4_add_110 : decode cX4_add 110 = .ok (.iconst 0, 1) := by decide +kernel
theorem dX4_add_111 : decode cX4_add 111 = .ok (.ireturn, 1) := by decide +kernel
theorem dX4_add_112 : decode cX4_add 112 = .ok (.iconst 0, 1) := by decide +kernel
theorem dX4_add_113 : decode cX4_add 113 = .ok (.istore 7, 2) := by decide +kernel
theorem dX4_add_115 : decode cX4_add 115 = .ok (.iload 7, 2) := by decide +kernel
theorem dX4_add_117 : decode cX4_add 117 = .ok (.bipush 60, 2) := by decide +kernel
theorem dX4_add_119 : decode cX4_add 119 = .ok (.if_icmp .ge 35, 3) := by decide +kernel
theorem dX4_add_122 : decode cX4_add 122 = .ok (.aload_n 0, 1) := by decide +kernel
theorem dX4_add_123 : decode cX4_add 123 = .ok (.getfield 7, 3) := by decide +kernel
theorem dX4_add_126 : decode cX4_add 126 = .ok (.iload 7, 2) := by decide +kernel
theorem dX4_add_128 : decode cX4_add 128 = .ok (.baload, 1) := by decide +kernel
theorem dX4_add_129 : decode cX4_add 129 = .ok (.ifCond .eq 19, 3) := by decide +kernel
theorem dX4_add_132 : decode cX4_add 132 = .ok (.aload_n 0, 1) := by decide +kernel
theorem dX4_add_133 : decode cX4_add 133 = .ok (.iload 7, 2) := by decide +kernel
theorem dX4_add_135 : decode cX4_add 135 = .ok (.iload_n 1, 1) := by decide +kernel
theorem dX4_add_136 : decode cX4_add 136 = .ok (.iload_n 2, 1) := by decide +kernel
theorem dX4_add_137 : decode cX4_add 137 = .ok (.iload_n 3, 1) := by decide +kernel
theorem dX4_add_138 : decode cX4_add 138 = .ok (.iload 4, 2) := by decide +kernel
theorem dX4_add_140 : decode cX4_add 140 = .ok (.invokevirtual 72, 3) := by decide +kernel
theorem dX4_add_143 : decode cX4_add 143 = .ok (.ifCond .eq 5, 3) := by decide +kernel
theorem dX4_add_146 : decode cX4_add 146 = .ok (.iconst (-1), 1) := by decide +kernel
theorem dX4_add_147 : decode cX4_add 147 = .ok (.ireturn, 1) := by decide +kernel
theorem dX4_add_148 : decode cX4_add 148 = .ok (.iinc 7 1, 3) := by decide +kernel
theorem dX4_add_151 : decode cX4_add 151 = .ok (.goto (-36), 3) := by decide +kernel
theorem dX4_add_154 : decode cX4_add 154 = .ok (.aload_n 0, 1) := by decide +kernel
theorem dX4_add_155 : decode cX4_add 155 = .ok (.getfield 7, 3) := by decide +kernel
theorem dX4_add_158 : decode cX4_add 158 = .ok (.iload 6, 2) := by decide +kernel
theorem dX4_add_160 : decode cX4_add 160 = .ok (.iconst 1, 1) := by decide +kernel
theorem dX4_add_161 : decode cX4_add 161 = .ok (.bastore, 1) := by decide +kernel
theorem dX4_add_162 : decode cX4_add 162 = .ok (.aload_n 0, 1) := by decide +kernel
theorem dX4_add_163 : decode cX4_add 163 = .ok (.getfield 13, 3) := by decide +kernel
theorem dX4_add_166 : decode cX4_add 166 = .ok (.iconst 2, 1) := by decide +kernel
theorem dX4_add_167 : decode cX4_add 167 = .ok (.iload 6, 2) := by decide +kernel
theorem dX4_add_169 : decode cX4_add 169 = .ok (.imul, 1) := by decide +kernel
theorem dX4_add_170 : decode cX4_add 170 = .ok (.iload_n 1, 1) := by decide +kernel
theorem dX4_add_171 : decode cX4_add 171 = .ok (.iastore, 1) := by decide +kernel
theorem dX4_add_172 : decode cX4_add 172 = .ok (.aload_n 0, 1) := by decide +kernel
theorem dX4_add_173 : decode cX4_add 173 = .ok (.getfield 17, 3) := by decide +kernel
theorem dX4_add_176 : decode cX4_add 176 = .ok (.iconst 2, 1) := by decide +kernel
theorem dX4_add_177 : decode cX4_add 177 = .ok (.iload 6, 2) := by decide +kernel
theorem dX4_add_179 : decode cX4_add 179 = .ok (.imul, 1) := by decide +kernel
theorem dX4_add_180 : decode cX4_add 180 = .ok (.iload_n 2, 1) := by decide +kernel
theorem dX4_add_181 : decode cX4_add 181 = .ok (.iastore, 1) := by decide +kernel
theorem dX4_add_182 : decode cX4_add 182 = .ok (.aload_n 0, 1) := by decide +kernel
theorem dX4_add_183 : decode cX4_add 183 = .ok (.getfield 13, 3) := by decide +kernel
theorem dX4_add_186 : decode cX4_add 186 = .ok (.iconst 2, 1) := by decide +kernel
theorem dX4_add_187 : decode cX4_add 187 = .ok (.iload 6, 2) := by decide +kernel
theorem dX4_add_189 : decode cX4_add 189 = .ok (.imul, 1) := by decide +kernel
theorem dX4_add_190 : decode cX4_add 190 = .ok (.iconst 1, 1) := by decide +kernel
theorem dX4_add_191 : decode cX4_add 191 = .ok (.iadd, 1) := by decide +kernel
theorem dX4_add_192 : decode cX4_add 192 = .ok (.iload_n 3, 1) := by decide +kernel
theorem dX4_add_193 : decode cX4_add 193 = .ok (.iastore, 1) := by decide +kernel
theorem dX4_add_194 : decode cX4_add 194 = .ok (.aload_n 0, 1) := by decide +kernel
theorem dX4_add_195 : decode cX4_add 195 = .ok (.getfield 17, 3) := by decide +kernel
theorem dX4_add_198 : decode cX4_add 198 = .ok (.iconst 2, 1) := by decide +kernel
theorem dX4_add_199 : decode cX4_add 199 = .ok (.iload 6, 2) := by decide +kernel
theorem dX4_add_201 : decode cX4_add 201 = .ok (.imul, 1) := by decide +kernel
theorem dX4_add_202 : decode cX4_add 202 = .ok (.iconst 1, 1) := by decide +kernel
theorem dX4_add_203 : decode cX4_add 203 = .ok (.iadd, 1) := by decide +kernel
theorem dX4_add_204 : decode cX4_add 204 = .ok (.iload 4, 2) := by decide +kernel
theorem dX4_add_206 : decode cX4_add 206 = .ok (.iastore, 1) := by decide +kernel
theorem dX4_add_207 : decode cX4_add 207 = .ok (.aload_n 0, 1) := by decide +kernel
theorem dX4_add_208 : decode cX4_add 208 = .ok (.iconst 0, 1) := by decide +kernel
theorem dX4_add_209 : decode cX4_add 209 = .ok (.putfield 76, 3) := by decide +kernel
theorem dX4_add_212 : decode cX4_add 212 = .ok (.iload 6, 2) := by decide +kernel
theorem dX4_add_214 : decode cX4_add 214 = .ok (.ireturn, 1) := by decide +kernel
theorem dX4_remove_0 : decode cX4_remove 0 = .ok (.aload_n 0, 1) := by decide +kernel
theorem dX4_remove_1 : decode cX4_remove 1 = .ok (.iconst 0, 1) := by decide +kernel
theorem dX4_remove_2 : decode cX4_remove 2 = .ok (.putfield 45, 3) := by decide +kernel
theorem dX4_remove_5 : decode cX4_remove 5 = .ok (.iload_n 1, 1) := by decide +kernel
theorem dX4_remove_6 : decode cX4_remove 6 = .ok (.ifCond .lt 22, 3) := by decide +kernel
theorem dX4_remove_9 : decode cX4_remove 9 = .ok (.iload_n 1, 1) := by decide +kernel
theorem dX4_remove_10 : decode cX4_remove 10 = .ok (.bipush 60, 2) := by decide +kernel
theorem dX4_remove_12 : decode cX4_remove 12 = .ok (.if_icmp .ge 16, 3) := by decide +kernel
theorem dX4_remove_15 : decode cX4_remove 15 = .ok (.aload_n 0, 1) := by decide +kernel
theorem dX4_remove_16 : decode cX4_remove 16 = .ok (.getfield 7, 3) := by decide +kernel
theorem dX4_remove_19 : decode cX4_remove 19 = .ok (.iload_n 1, 1) := by decide +kernel
theorem dX4_remove_20 : decode cX4_remove 20 = .ok (.baload, 1) := by decide +kernel
theorem dX4_remove_21 : decode cX4_remove 21 = .ok (.ifCond .eq 7, 3) := by decide +kernel
theorem dX4_remove_24 : decode cX4_remove 24 = .ok (.iconst 1, 1) := by decide +kernel
theorem dX4_remove_25 : decode cX4_remove 25 = .ok (.goto 4, 3) := by decide +kernel
theorem dX4_remove_28 : decode cX4_remove 28 = .ok (.iconst 0, 1) := by decide +kernel
theorem dX4_remove_29 : decode cX4_remove 29 = .ok (.istore_n 2, 1) := by decide +kernel
theorem dX4_remove_30 : decode cX4_remove 30 = .ok (.iload_n 2, 1) := by decide +kernel
theorem dX4_remove_31 : decode cX4_remove 31 = .ok (.ifCond .eq 15, 3) := by decide +kernel
theorem dX4_remove_34 : decode cX4_remove 34 = .ok (.aload_n 0, 1) := by decide +kernel
theorem dX4_remove_35 : decode cX4_remove 35 = .ok (.getfield 7, 3) := by decide +kernel
theorem dX4_remove_38 : decode cX4_remove 38 = .ok (.iload_n 1, 1) := by decide +kernel
theorem dX4_remove_39 : decode cX4_remove 39 = .ok (.iconst 0, 1) := by decide +kernel
theorem dX4_remove_40 : decode cX4_remove 40 = .ok (.bastore, 1) := by decide +kernel
theorem dX4_remove_41 : decode cX4_remove 41 = .ok (.aload_n 0, 1) := by decide +kernel
theorem dX4_remove_42 : decode cX4_remove 42 = .ok (.iconst 0, 1) := by decide +kernel
theorem dX4_remove_43 : decode cX4_remove 43 = .ok (.putfield 76, 3) := by decide +kernel
theorem dX4_remove_46 : decode cX4_remove 46 = .ok (.iload_n 2, 1) := by decide +kernel
theorem dX4_remove_47 : decode cX4_remove 47 = .ok (.ireturn, 1) := by decide +kernel
theorem dX4_clear_0 : decode cX4_clear 0 = .ok (.aload_n 0, 1) := by decide +kernel
theorem dX4_clear_1 : decode cX4_clear 1 = .ok (.iconst 0, 1) := by decide +kernel
theorem dX4_clear_2 : decode cX4_clear 2 = .ok (.putfield 45, 3) := by decide +kernel
theorem dX4_clear_5 : decode cX4_clear 5 = .ok (.iconst 0, 1) := by decide +kernel
theorem dX4_clear_6 : decode cX4_clear 6 = .ok (.istore_n 1, 1) := by decide +kernel
theorem dX4_clear_7 : decode cX4_clear 7 = .ok (.iconst 0, 1) := by decide +kernel
theorem dX4_clear_8 : decode cX4_clear 8 = .ok (.istore_n 2, 1) := by decide +kernel
theorem dX4_clear_9 : decode cX4_clear 9 = .ok (.iload_n 2, 1) := by decide +kernel
theorem dX4_clear_10 : decode cX4_clear 10 = .ok (.bipush 60, 2) := by decide +kernel
theorem dX4_clear_12 : decode cX4_clear 12 = .ok (.if_icmp .ge 33, 3) := by decide +kernel
theorem dX4_clear_15 : decode cX4_clear 15 = .ok (.aload_n 0, 1) := by decide +kernel
theorem dX4_clear_16 : decode cX4_clear 16 = .ok (.getfield 7, 3) := by decide +kernel
theorem dX4_clear_19 : decode cX4_clear 19 = .ok (.iload_n 2, 1) := by decide +kernel
theorem dX4_clear_20 : decode cX4_clear 20 = .ok (.baload, 1) := by decide +kernel
theorem dX4_clear_21 : decode cX4_clear 21 = .ok (.ifCond .eq 9, 3) := by decide +kernel
theorem dX4_clear_24 : decode cX4_clear 24 = .ok (.iload_n 1, 1) := by decide +kernel
theorem dX4_clear_25 : decode cX4_clear 25 = .ok (.iconst 1, 1) := by decide +kernel
theorem dX4_clear_26 : decode cX4_clear 26 = .ok (.iadd, 1) := by decide +kernel
theorem dX4_clear_27 : decode cX4_clear 27 = .ok (.goto 4, 3) := by decide +kernel
theorem dX4_clear_30 : decode cX4_clear 30 = .ok (.iload_n 1, 1) := by decide +kernel
theorem dX4_clear_31 : decode cX4_clear 31 = .ok (.istore_n 1, 1) := by decide +kernel
theorem dX4_clear_32 : decode cX4_clear 32 = .ok (.aload_n 0, 1) := by decide +kernel
theorem dX4_clear_33 : decode cX4_clear 33 = .ok (.getfield 7, 3) := by decide +kernel
theorem dX4_clear_36 : decode cX4_clear 36 = .ok (.iload_n 2, 1) := by decide +kernel
theorem dX4_clear_37 : decode cX4_clear 37 = .ok (.iconst 0, 1) := by decide +kernel
theorem dX4_clear_38 : decode cX4_clear 38 = .ok (.bastore, 1) := by decide +kernel
theorem dX4_clear_39 : decode cX4_clear 39 = .ok (.iinc 2 1, 3) := by decide +kernel
theorem dX4_clear_42 : decode cX4_clear 42 = .ok (.goto (-33), 3) := by decide +kernel
theorem dX4_clear_45 : decode cX4_clear 45 = .ok (.aload_n 0, 1) := by decide +kernel
theorem dX4_clear_46 : decode cX4_clear 46 = .ok (.iconst 0, 1) := by decide +kernel
theorem dX4_clear_47 : decode cX4_clear 47 = .ok (.putfield 76, 3) := by decide +kernel
theorem dX4_clear_50 : decode cX4_clear 50 = .ok (.iload_n 1, 1) := by decide +kernel
theorem dX4_clear_51 : decode cX4_clear 51 = .ok (.ireturn, 1) := by decide +kernel
theorem dX4_isHalf_0 : decode cX4_isHalf 0 = .ok (.iload_n 1, 1) := by decide +kernel
theorem dX4_isHalf_1 : decode cX4_isHalf 1 = .ok (.ifCond .lt 24, 3) := by decide +kernel
theorem dX4_isHalf_4 : decode cX4_isHalf 4 = .ok (.iload_n 1, 1) := by decide +kernel
theorem dX4_isHalf_5 : decode cX4_isHalf 5 = .ok (.bipush 120, 2) := by decide +kernel
theorem dX4_isHalf_7 : decode cX4_isHalf 7 = .ok (.if_icmp .ge 18, 3) := by decide +kernel
theorem dX4_isHalf_10 : decode cX4_isHalf 10 = .ok (.aload_n 0, 1) := by decide +kernel
theorem dX4_isHalf_11 : decode cX4_isHalf 11 = .ok (.getfield 7, 3) := by decide +kernel
theorem dX4_isHalf_14 : decode cX4_isHalf 14 = .ok (.iload_n 1, 1) := by decide +kernel
theorem dX4_isHalf_15 : decode cX4_isHalf 15 = .ok (.iconst 2, 1) := by decide +kernel
theorem dX4_isHalf_16 : decode cX4_isHalf 16 = .ok (.idiv, 1) := by decide +kernel
theorem dX4_isHalf_17 : decode cX4_isHalf 17 = .ok (.baload, 1) := by decide +kernel
theorem dX4_isHalf_18 : decode cX4_isHalf 18 = .ok (.ifCond .eq 7, 3) := by decide +kernel
theorem dX4_isHalf_21 : decode cX4_isHalf 21 = .ok (.iconst 1, 1) := by decide +kernel
theorem dX4_isHalf_22 : decode cX4_isHalf 22 = .ok (.goto 4, 3) := by decide +kernel
theorem dX4_isHalf_25 : decode cX4_isHalf 25 = .ok (.iconst 0, 1) := by decide +kernel
theorem dX4_isHalf_26 : decode cX4_isHalf 26 = .ok (.ireturn, 1) := by decide +kernel
theorem dX4_back_0 : decode cX4_back 0 = .ok (.iload_n 0, 1) := by decide +kernel
theorem dX4_back_1 : decode cX4_back 1 = .ok (.iconst 2, 1) := by decide +kernel
theorem dX4_back_2 : decode cX4_back 2 = .ok (.irem, 1) := by decide +kernel
theorem dX4_back_3 : decode cX4_back 3 = .ok (.ifCond .ne 9, 3) := by decide +kernel
theorem dX4_back_6 : decode cX4_back 6 = .ok (.iload_n 0, 1) := by decide +kernel
theorem dX4_back_7 : decode cX4_back 7 = .ok (.iconst 1, 1) := by decide +kernel
theorem dX4_back_8 : decode cX4_back 8 = .ok (.iadd, 1) := by decide +kernel
theorem dX4_back_9 : decode cX4_back 9 = .ok (.goto 6, 3) := by decide +kernel
theorem dX4_back_12 : decode cX4_back 12 = .ok (.iload_n 0, 1) := by decide +kernel
theorem dX4_back_13 : decode cX4_back 13 = .ok (.iconst 1, 1) := by decide +kernel
theorem dX4_back_14 : decode cX4_back 14 = .ok (.isub, 1) := by decide +kernel
theorem dX4_back_15 : decode cX4_back 15 = .ok (.ireturn, 1) := by decide +kernel
theorem dX4_leaves_0 : decode cX4_leaves 0 = .ok (.aload_n 0, 1) := by decide +kernel
theorem dX4_leaves_1 : decode cX4_leaves 1 = .ok (.getfield 7, 3) := by decide +kernel
theorem dX4_leaves_4 : decode cX4_leaves 4 = .ok (.iload_n 1, 1) := by decide +kernel
theorem dX4_leaves_5 : decode cX4_leaves 5 = .ok (.iconst 2, 1) := by decide +kernel
theorem dX4_leaves_6 : decode cX4_leaves 6 = .ok (.idiv, 1) := by decide +kernel
theorem dX4_leaves_7 : decode cX4_leaves 7 = .ok (.baload, 1) := by decide +kernel
theorem dX4_leaves_8 : decode cX4_leaves 8 = .ok (.ifCond .eq 27, 3) := by decide +kernel
theorem dX4_leaves_11 : decode cX4_leaves 11 = .ok (.aload_n 0, 1) := by decide +kernel
theorem dX4_leaves_12 : decode cX4_leaves 12 = .ok (.getfield 13, 3) := by decide +kernel
theorem dX4_leaves_15 : decode cX4_leaves 15 = .ok (.iload_n 1, 1) := by decide +kernel
theorem dX4_leaves_16 : decode cX4_leaves 16 = .ok (.iaload, 1) := by decide +kernel
theorem dX4_leaves_17 : decode cX4_leaves 17 = .ok (.iload_n 2, 1) := by decide +kernel
theorem dX4_leaves_18 : decode cX4_leaves 18 = .ok (.if_icmp .ne 17, 3) := by decide +kernel
theorem dX4_leaves_21 : decode cX4_leaves 21 = .ok (.aload_n 0, 1) := by decide +kernel
theorem dX4_leaves_22 : decode cX4_leaves 22 = .ok (.getfield 17, 3) := by decide +kernel
theorem dX4_leaves_25 : decode cX4_leaves 25 = .ok (.iload_n 1, 1) := by decide +kernel
theorem dX4_leaves_26 : decode cX4_leaves 26 = .ok (.iaload, 1) := by decide +kernel
theorem dX4_leaves_27 : decode cX4_leaves 27 = .ok (.iload_n 3, 1) := by decide +kernel
theorem dX4_leaves_28 : decode cX4_leaves 28 = .ok (.if_icmp .ne 7, 3) := by decide +kernel
theorem dX4_leaves_31 : decode cX4_leaves 31 = .ok (.iconst 1, 1) := by decide +kernel
theorem dX4_leaves_32 : decode cX4_leaves 32 = .ok (.goto 4, 3) := by decide +kernel
theorem dX4_leaves_35 : decode cX4_leaves 35 = .ok (.iconst 0, 1) := by decide +kernel
theorem dX4_leaves_36 : decode cX4_leaves 36 = .ok (.ireturn, 1) := by decide +kernel
set_option maxRecDepth 20000 in
theorem ggX4_crossOf_X4_back : GoodIn wsX4_crossOf wsX4_back := goodIn_r _ [6] (by decide +kernel) (by decide +kernel)
set_option maxRecDepth 20000 in
theorem gX4_crossOf_X4_back : GoodIn wsX4_crossOf (va_wsS RX4 80 yX4_back wsX4_back) := goodIn_app (goodIn_of _ (by decide +kernel)) ggX4_crossOf_X4_back
theorem dX4_crossOf_0 : decode cX4_crossOf 0 = .ok (.aload_n 0, 1) := by decide +kernel
theorem dX4_crossOf_1 : decode cX4_crossOf 1 = .ok (.getfield 13, 3) := by decide +kernel
theorem dX4_crossOf_4 : decode cX4_crossOf 4 = .ok (.iload_n 1, 1) := by decide +kernel
theorem dX4_crossOf_5 : decode cX4_crossOf 5 = .ok (.invokestatic 80, 3) := by decide +kernel
theorem dX4_crossOf_8 : decode cX4_crossOf 8 = .ok (.iaload, 1) := by decide +kernel
theorem dX4_crossOf_9 : decode cX4_crossOf 9 = .ok (.aload_n 0, 1) := by decide +kernel
theorem dX4_crossOf_10 : decode cX4_crossOf 10 = .ok (.getfield 13, 3) := by decide +kernel
theorem dX4_crossOf_13 : decode cX4_crossOf 13 = .ok (.iload_n 1, 1) := by decide +kernel
theorem dX4_crossOf_14 : decode cX4_crossOf 14 = .ok (.iaload, 1) := by decide +kernel
theorem dX4_crossOf_15 : decode cX4_crossOf 15 = .ok (.isub, 1) := by decide +kernel
theorem dX4_crossOf_16 : decode cX4_crossOf 16 = .ok (.i2l, 1) := by decide +kernel
theorem dX4_crossOf_17 : decode cX4_crossOf 17 = .ok (.lstore_n 3, 1) := by decide +kernel
theorem dX4_crossOf_18 : decode cX4_crossOf 18 = .ok (.aload_n 0, 1) := by decide +kernel
theorem dX4_crossOf_19 : decode cX4_crossOf 19 = .ok (.getfield 17, 3) := by decide +kernel
theorem dX4_crossOf_22 : decode cX4_crossOf 22 = .ok (.iload_n 1, 1) := by decide +kernel
theorem dX4_crossOf_23 : decode cX4_crossOf 23 = .ok (.invokestatic 80, 3) := by decide +kernel
theorem dX4_crossOf_26 : decode cX4_crossOf 26 = .ok (.iaload, 1) := by decide +kernel
theorem dX4_crossOf_27 : decode cX4_crossOf 27 = .ok (.aload_n 0, 1) := by decide +kernel
theorem dX4_crossOf_28 : decode cX4_crossOf 28 = .ok (.getfield 17, 3) := by decide +kernel
theorem dX4_crossOf_31 : decode cX4_crossOf 31 = .ok (.iload_n 1, 1) := by decide +kernel
theorem dX4_crossOf_32 : decode cX4_crossOf 32 = .ok (.iaload, 1) := by decide +kernel
theorem dX4_crossOf_33 : decode cX4_crossOf 33 = .ok (.isub, 1) := by decide +kernel
theorem dX4_crossOf_34 : decode cX4_crossOf 34 = .ok (.i2l, 1) := by decide +kernel
theorem dX4_crossOf_35 : decode cX4_crossOf 35 = .ok (.lstore 5, 2) := by decide +kernel
theorem dX4_crossOf_37 : decode cX4_crossOf 37 = .ok (.aload_n 0, 1) := by decide +kernel
theorem dX4_crossOf_38 : decode cX4_crossOf 38 = .ok (.getfield 13, 3) := by decide +kernel
theorem dX4_crossOf_41 : decode cX4_crossOf 41 = .ok (.iload_n 2, 1) := by decide +kernel
theorem dX4_crossOf_42 : decode cX4_crossOf 42 = .ok (.invokestatic 80, 3) := by decide +kernel
theorem dX4_crossOf_45 : decode cX4_crossOf 45 = .ok (.iaload, 1) := by decide +kernel
theorem dX4_crossOf_46 : decode cX4_crossOf 46 = .ok (.aload_n 0, 1) := by decide +kernel
theorem dX4_crossOf_47 : decode cX4_crossOf 47 = .ok (.getfield 13, 3) := by decide +kernel
theorem dX4_crossOf_50 : decode cX4_crossOf 50 = .ok (.iload_n 2, 1) := by decide +kernel
theorem dX4_crossOf_51 : decode cX4_crossOf 51 = .ok (.iaload, 1) := by decide +kernel
theorem dX4_crossOf_52 : decode cX4_crossOf 52 = .ok (.isub, 1) := by decide +kernel
theorem dX4_crossOf_53 : decode cX4_crossOf 53 = .ok (.i2l, 1) := by decide +kernel
theorem dX4_crossOf_54 : decode cX4_crossOf 54 = .ok (.lstore 7, 2) := by decide +kernel
theorem dX4_crossOf_56 : decode cX4_crossOf 56 = .ok (.aload_n 0, 1) := by decide +kernel
theorem dX4_crossOf_57 : decode cX4_crossOf 57 = .ok (.getfield 17, 3) := by decide +kernel
theorem dX4_crossOf_60 : decode cX4_crossOf 60 = .ok (.iload_n 2, 1) := by decide +kernel
theorem dX4_crossOf_61 : decode cX4_crossOf 61 = .ok (.invokestatic 80, 3) := by decide +kernel
theorem dX4_crossOf_64 : decode cX4_crossOf 64 = .ok (.iaload, 1) := by decide +kernel
theorem dX4_crossOf_65 : decode cX4_crossOf 65 = .ok (.aload_n 0, 1) := by decide +kernel
theorem dX4_crossOf_66 : decode cX4_crossOf 66 = .ok (.getfield 17, 3) := by decide +kernel
theorem dX4_crossOf_69 : decode cX4_crossOf 69 = .ok (.iload_n 2, 1) := by decide +kernel
theorem dX4_crossOf_70 : decode cX4_crossOf 70 = .ok (.iaload, 1) := by decide +kernel
theorem dX4_crossOf_71 : decode cX4_crossOf 71 = .ok (.isub, 1) := by decide +kernel
theorem dX4_crossOf_72 : decode cX4_crossOf 72 = .ok (.i2l, 1) := by decide +kernel
theorem dX4_crossOf_73 : decode cX4_crossOf 73 = .ok (.lstore 9, 2) := by decide +kernel
theorem dX4_crossOf_75 : decode cX4_crossOf 75 = .ok (.lload_n 3, 1) := by decide +kernel
theorem dX4_crossOf_76 : decode cX4_crossOf 76 = .ok (.lload 9, 2) := by decide +kernel
theorem dX4_crossOf_78 : decode cX4_crossOf 78 = .ok (.lmul, 1) := by decide +kernel
theorem dX4_crossOf_79 : decode cX4_crossOf 79 = .ok (.lload 5, 2) := by decide +kernel
theorem dX4_crossOf_81 : decode cX4_crossOf 81 = .ok (.lload 7, 2) := by decide +kernel
theorem dX4_crossOf_83 : decode cX4_crossOf 83 = .ok (.lmul, 1) := by decide +kernel
theorem dX4_crossOf_84 : decode cX4_crossOf 84 = .ok (.lsub, 1) := by decide +kernel
theorem dX4_crossOf_85 : decode cX4_crossOf 85 = .ok (.lreturn, 1) := by decide +kernel
set_option maxRecDepth 20000 in
theorem ggX4_turned_X4_crossOf : GoodIn wsX4_turned wsX4_crossOf := goodIn_r _ [5, 6, 7, 8, 9, 4, 10, 11, 12, 13, 14, 15, 16, 17, 18, 19, 20, 21, 22, 23, 24, 25, 26] (by decide +kernel) (by decide +kernel)
set_option maxRecDepth 20000 in
theorem gX4_turned_X4_crossOf : GoodIn wsX4_turned (wsV RX4 84 RX4 yX4_crossOf wsX4_crossOf) := goodIn_app (goodIn_of _ (by decide +kernel)) ggX4_turned_X4_crossOf
theorem dX4_turned_0 : decode cX4_turned 0 = .ok (.aload_n 0, 1) := by decide +kernel
theorem dX4_turned_1 : decode cX4_turned 1 = .ok (.iload_n 1, 1) := by decide +kernel
theorem dX4_turned_2 : decode cX4_turned 2 = .ok (.iload_n 2, 1) := by decide +kernel
theorem dX4_turned_3 : decode cX4_turned 3 = .ok (.invokevirtual 84, 3) := by decide +kernel
theorem dX4_turned_6 : decode cX4_turned 6 = .ok (.lstore_n 3, 1) := by decide +kernel
theorem dX4_turned_7 : decode cX4_turned 7 = .ok (.lload_n 3, 1) := by decide +kernel
theorem dX4_turned_8 : decode cX4_turned 8 = .ok (.lconst 0, 1) := by decide +kernel
theorem dX4_turned_9 : decode cX4_turned 9 = .ok (.lcmp, 1) := by decide +kernel
theorem dX4_turned_10 : decode cX4_turned 10 = .ok (.ifCond .ge 7, 3) := by decide +kernel
theorem dX4_turned_13 : decode cX4_turned 13 = .ok (.iconst 0, 1) := by decide +kernel
theorem dX4_turned_14 : decode cX4_turned 14 = .ok (.goto 14, 3) := by decide +kernel
theorem dX4_turned_17 : decode cX4_turned 17 = .ok (.lload_n 3, 1) := by decide +kernel
theorem dX4_turned_18 : decode cX4_turned 18 = .ok (.lconst 0, 1) := by decide +kernel
theorem dX4_turned_19 : decode cX4_turned 19 = .ok (.lcmp, 1) := by decide +kernel
theorem dX4_turned_20 : decode cX4_turned 20 = .ok (.ifCond .ne 7, 3) := by decide +kernel
theorem dX4_turned_23 : decode cX4_turned 23 = .ok (.iconst 1, 1) := by decide +kernel
theorem dX4_turned_24 : decode cX4_turned 24 = .ok (.goto 4, 3) := by decide +kernel
theorem dX4_turned_27 : decode cX4_turned 27 = .ok (.iconst 2, 1) := by decide +kernel
theorem dX4_turned_28 : decode cX4_turned 28 = .ok (.ireturn, 1) := by decide +kernel
set_option maxRecDepth 20000 in
theorem ggX4_nextOf_X4_back : GoodIn wsX4_nextOf wsX4_back := goodIn_r _ [6] (by decide +kernel) (by decide +kernel)
set_option maxRecDepth 20000 in
theorem gX4_nextOf_X4_back : GoodIn wsX4_nextOf (va_wsS RX4 80 yX4_back wsX4_back) := goodIn_app (goodIn_of _ (by decide +kernel)) ggX4_nextOf_X4_back
set_option maxRecDepth 20000 in
theorem ggX4_nextOf_X4_leaves : GoodIn wsX4_nextOf wsX4_leaves := goodIn_r _ [10, 11, 1, 2, 20, 21, 22, 23, 24, 25, 26, 27, 28, 29, 30, 31, 32, 33, 34, 35] (by decide +kernel) (by decide +kernel)
set_option maxRecDepth 20000 in
theorem gX4_nextOf_X4_leaves : GoodIn wsX4_nextOf (wsV RX4 88 RX4 yX4_leaves wsX4_leaves) := goodIn_app (goodIn_of _ (by decide +kernel)) ggX4_nextOf_X4_leaves
set_option maxRecDepth 20000 in
theorem ggX4_nextOf_X4_turned : GoodIn wsX4_nextOf wsX4_turned := goodIn_r _ [15, 16, 17, 18, 5, 19, 1, 2, 3, 4, 6, 20, 21, 22, 23, 24, 25, 26, 27, 28, 29, 30, 31, 32, 33, 34, 35] (by decide +kernel) (by decide +kernel)
set_option maxRecDepth 20000 in
theorem gX4_nextOf_X4_turned : GoodIn wsX4_nextOf (wsV RX4 91 RX4 yX4_turned wsX4_turned) := goodIn_app (goodIn_of _ (by decide +kernel)) ggX4_nextOf_X4_turned
set_option maxRecDepth 20000 in
theorem ggX4_nextOf_X4_crossOf : GoodIn wsX4_nextOf wsX4_crossOf := goodIn_r _ [19, 1, 2, 3, 4, 5, 6, 20, 21, 22, 23, 24, 25, 26, 27, 28, 29, 30, 31, 32, 33, 34, 35] (by decide +kernel) (by decide +kernel)
set_option maxRecDepth 20000 in
theorem gX4_nextOf_X4_crossOf : GoodIn wsX4_nextOf (wsV RX4 84 RX4 yX4_crossOf wsX4_crossOf) := goodIn_app (goodIn_of _ (by decide +kernel)) ggX4_nextOf_X4_crossOf
theorem dX4_nextOf_0 : decode cX4_nextOf 0 = .ok (.iload_n 1, 1) := by decide +kernel
theorem dX4_nextOf_1 : decode cX4_nextOf 1 = .ok (.invokestatic 80, 3) := by decide +kernel
theorem dX4_nextOf_4 : decode cX4_nextOf 4 = .ok (.istore_n 2, 1) := by decide +kernel
theorem dX4_nextOf_5 : decode cX4_nextOf 5 = .ok (.iconst (-1), 1) := by decide +kernel
theorem dX4_nextOf_6 : decode cX4_nextOf 6 = .ok (.istore_n 3, 1) := by decide +kernel
theorem dX4_nextOf_7 : decode cX4_nextOf 7 = .ok (.iconst 0, 1) := by decide +kernel
theorem dX4_nextOf_8 : decode cX4_nextOf 8 = .ok (.istore 4, 2) := by decide +kernel
theorem dX4_nextOf_10 : decode cX4_nextOf 10 = .ok (.iload 4, 2) := by decide +kernel
theorem dX4_nextOf_12 : decode cX4_nextOf 12 = .ok (.bipush 120, 2) := by decide +kernel
theorem dX4_nextOf_14 : decode cX4_nextOf 14 = .ok (.if_icmp .ge 103, 3) := by decide +kernel
theorem dX4_nextOf_17 : decode cX4_nextOf 17 = .ok (.iload 4, 2) := by decide +kernel
theorem dX4_nextOf_19 : decode cX4_nextOf 19 = .ok (.iload_n 2, 1) := by decide +kernel
theorem dX4_nextOf_20 : decode cX4_nextOf 20 = .ok (.if_icmp .eq 91, 3) := by decide +kernel
theorem dX4_nextOf_23 : decode cX4_nextOf 23 = .ok (.aload_n 0, 1) := by decide +kernel
theorem dX4_nextOf_24 : decode cX4_nextOf 24 = .ok (.iload 4, 2) := by decide +kernel
theorem dX4_nextOf_26 : decode cX4_nextOf 26 = .ok (.aload_n 0, 1) := by decide +kernel
theorem dX4_nextOf_27 : decode cX4_nextOf 27 = .ok (.getfield 13, 3) := by decide +kernel
theorem dX4_nextOf_30 : decode cX4_nextOf 30 = .ok (.iload_n 2, 1) := by decide +kernel
theorem dX4_nextOf_31 : decode cX4_nextOf 31 = .ok (.iaload, 1) := by decide +kernel
theorem dX4_nextOf_32 : decode cX4_nextOf 32 = .ok (.aload_n 0, 1) := by decide +kernel
theorem dX4_nextOf_33 : decode cX4_nextOf 33 = .ok (.getfield 17, 3) := by decide +kernel
theorem dX4_nextOf_36 : decode cX4_nextOf 36 = .ok (.iload_n 2, 1) := by decide +kernel
theorem dX4_nextOf_37 : decode cX4_nextOf 37 = .ok (.iaload, 1) := by decide +kernel
theorem dX4_nextOf_38 : decode cX4_nextOf 38 = .ok (.invokevirtual 88, 3) := by decide +kernel
theorem dX4_nextOf_41 : decode cX4_nextOf 41 = .ok (.ifCond .eq 70, 3) := by decide +kernel
theorem dX4_nextOf_44 : decode cX4_nextOf 44 = .ok (.iload_n 3, 1) := by decide +kernel
theorem dX4_nextOf_45 : decode cX4_nextOf 45 = .ok (.ifCond .lt 47, 3) := by decide +kernel
theorem dX4_nextOf_48 : decode cX4_nextOf 48 = .ok (.aload_n 0, 1) := by decide +kernel
theorem dX4_nextOf_49 : decode cX4_nextOf 49 = .ok (.iload_n 2, 1) := by decide +kernel
theorem dX4_nextOf_50 : decode cX4_nextOf 50 = .ok (.iload 4, 2) := by decide +kernel
theorem dX4_nextOf_52 : decode cX4_nextOf 52 = .ok (.invokevirtual 91, 3) := by decide +kernel
theorem dX4_nextOf_55 : decode cX4_nextOf 55 = .ok (.aload_n 0, 1) := by decide +kernel
theorem dX4_nextOf_56 : decode cX4_nextOf 56 = .ok (.iload_n 2, 1) := by decide +kernel
theorem dX4_nextOf_57 : decode cX4_nextOf 57 = .ok (.iload_n 3, 1) := by decide +kernel
theorem dX4_nextOf_58 : decode cX4_nextOf 58 = .ok (.invokevirtual 91, 3) := by decide +kernel
theorem dX4_nextOf_61 : decode cX4_nextOf 61 = .ok (.if_icmp .lt 31, 3) := by decide +kernel
theorem dX4_nextOf_64 : decode cX4_nextOf 64 = .ok (.aload_n 0, 1) := by decide +kernel
theorem dX4_nextOf_65 : decode cX4_nextOf 65 = .ok (.iload_n 2, 1) := by decide +kernel
theorem dX4_nextOf_66 : decode cX4_nextOf 66 = .ok (.iload 4, 2) := by decide +kernel
theorem dX4_nextOf_68 : decode cX4_nextOf 68 = .ok (.invokevirtual 91, 3) := by decide +kernel
theorem dX4_nextOf_71 : decode cX4_nextOf 71 = .ok (.aload_n 0, 1) := by decide +kernel
theorem dX4_nextOf_72 : decode cX4_nextOf 72 = .ok (.iload_n 2, 1) := by decide +kernel
theorem dX4_nextOf_73 : decode cX4_nextOf 73 = .ok (.iload_n 3, 1) := by decide +kernel
theorem dX4_nextOf_74 : decode cX4_nextOf 74 = .ok (.invokevirtual 91, 3) := by decide +kernel
theorem dX4_nextOf_77 : decode cX4_nextOf 77 = .ok (.if_icmp .ne 19, 3) := by decide +kernel
theorem dX4_nextOf_80 : decode cX4_nextOf 80 = .ok (.aload_n 0, 1) := by decide +kernel
theorem dX4_nextOf_81 : decode cX4_nextOf 81 = .ok (.iload 4, 2) := by decide +kernel
theorem dX4_nextOf_83 : decode cX4_nextOf 83 = .ok (.iload_n 3, 1) := by decide +kernel
theorem dX4_nextOf_84 : decode cX4_nextOf 84 = .ok (.invokevirtual 84, 3) := by decide +kernel
theorem dX4_nextOf_87 : decode cX4_nextOf 87 = .ok (.lconst 0, 1) := by decide +kernel
theorem dX4_nextOf_88 : decode cX4_nextOf 88 = .ok (.lcmp, 1) := by decide +kernel
theorem dX4_nextOf_89 : decode cX4_nextOf 89 = .ok (.ifCond .ge 7, 3) := by decide +kernel
theorem dX4_nextOf_92 : decode cX4_nextOf 92 = .ok (.iconst 1, 1) := by decide +kernel
theorem dX4_nextOf_93 : decode cX4_nextOf 93 = .ok (.goto 4, 3) := by decide +kernel
theorem dX4_nextOf_96 : decode cX4_nextOf 96 = .ok (.iconst 0, 1) := by decide +kernel
theorem dX4_nextOf_97 : decode cX4_nextOf 97 = .ok (.istore 5, 2) := by decide +kernel
theorem dX4_nextOf_99 : decode cX4_nextOf 99 = .ok (.iload 5, 2) := by decide +kernel
theorem dX4_nextOf_101 : decode cX4_nextOf 101 = .ok (.ifCond .eq 8, 3) := by decide +kernel
theorem dX4_nextOf_104 : decode cX4_nextOf 104 = .ok (.iload 4, 2) := by decide +kernel
theorem dX4_nextOf_106 : decode cX4_nextOf 106 = .ok (.goto 4, 3) := by decide +kernel
theorem dX4_nextOf_109 : decode cX4_nextOf 109 = .ok (.iload_n 3, 1) := by decide +kernel
theorem dX4_nextOf_110 : decode cX4_nextOf 110 = .ok (.istore_n 3, 1) := by decide +kernel
theorem dX4_nextOf_111 : decode cX4_nextOf 111 = .ok (.iinc 4 1, 3) := by decide +kernel
theorem dX4_nextOf_114 : decode cX4_nextOf 114 = .ok (.goto (-104), 3) := by decide +kernel
theorem dX4_nextOf_117 : decode cX4_nextOf 117 = .ok (.iload_n 3, 1) := by decide +kernel
theorem dX4_nextOf_118 : decode cX4_nextOf 118 = .ok (.ifCond .ge 7, 3) := by decide +kernel
theorem dX4_nextOf_121 : decode cX4_nextOf 121 = .ok (.iload_n 2, 1) := by decide +kernel
theorem dX4_nextOf_122 : decode cX4_nextOf 122 = .ok (.goto 4, 3) := by decide +kernel
theorem dX4_nextOf_125 : decode cX4_nextOf 125 = .ok (.iload_n 3, 1) := by decide +kernel
theorem dX4_nextOf_126 : decode cX4_nextOf 126 = .ok (.ireturn, 1) := by decide +kernel
set_option maxRecDepth 20000 in
theorem ggX4_spreadPiece_X4_back : GoodIn wsX4_spreadPiece wsX4_back := goodIn_r _ [8] (by decide +kernel) (by decide +kernel)
set_option maxRecDepth 20000 in
theorem gX4_spreadPiece_X4_back : GoodIn wsX4_spreadPiece (va_wsS RX4 80 yX4_back wsX4_back) := goodIn_app (goodIn_of _ (by decide +kernel)) ggX4_spreadPiece_X4_back
theorem dX4_spreadPiece_0 : decode cX4_spreadPiece 0 = .ok (.aload_n 0, 1) := by decide +kernel
theorem dX4_spreadPiece_1 : decode cX4_spreadPiece 1 = .ok (.getfield 23, 3) := by decide +kernel
theorem dX4_spreadPiece_4 : decode cX4_spreadPiece 4 = .ok (.iload_n 1, 1) := by decide +kernel
theorem dX4_spreadPiece_5 : decode cX4_spreadPiece 5 = .ok (.iload_n 2, 1) := by decide +kernel
theorem dX4_spreadPiece_6 : decode cX4_spreadPiece 6 = .ok (.iastore, 1) := by decide +kernel
theorem dX4_spreadPiece_7 : decode cX4_spreadPiece 7 = .ok (.iconst 1, 1) := by decide +kernel
theorem dX4_spreadPiece_8 : decode cX4_spreadPiece 8 = .ok (.istore_n 3, 1) := by decide +kernel
theorem dX4_spreadPiece_9 : decode cX4_spreadPiece 9 = .ok (.iload_n 3, 1) := by decide +kernel
theorem dX4_spreadPiece_10 : decode cX4_spreadPiece 10 = .ok (.ifCond .eq 159, 3) := by decide +kernel
theorem dX4_spreadPiece_13 : decode cX4_spreadPiece 13 = .ok (.iconst 0, 1) := by decide +kernel
theorem dX4_spreadPiece_14 : decode cX4_spreadPiece 14 = .ok (.istore_n 3, 1) := by decide +kernel
theorem dX4_spreadPiece_15 : decode cX4_spreadPiece 15 = .ok (.iconst 0, 1) := by decide +kernel
theorem dX4_spreadPiece_16 : decode cX4_spreadPiece 16 = .ok (.istore 4, 2) := by decide +kernel
theorem dX4_spreadPiece_18 : decode cX4_spreadPiece 18 = .ok (.iload 4, 2) := by decide +kernel
theorem dX4_spreadPiece_20 : decode cX4_spreadPiece 20 = .ok (.bipush 120, 2) := by decide +kernel
theorem dX4_spreadPiece_22 : decode cX4_spreadPiece 22 = .ok (.if_icmp .ge 144, 3) := by decide +kernel
theorem dX4_spreadPiece_25 : decode cX4_spreadPiece 25 = .ok (.iconst 0, 1) := by decide +kernel
theorem dX4_spreadPiece_26 : decode cX4_spreadPiece 26 = .ok (.istore 5, 2) := by decide +kernel
theorem dX4_spreadPiece_28 : decode cX4_spreadPiece 28 = .ok (.iconst 0, 1) := by decide +kernel
theorem dX4_spreadPiece_29 : decode cX4_spreadPiece 29 = .ok (.istore 6, 2) := by decide +kernel
theorem dX4_spreadPiece_31 : decode cX4_spreadPiece 31 = .ok (.iload 6, 2) := by decide +kernel
theorem dX4_spreadPiece_33 : decode cX4_spreadPiece 33 = .ok (.bipush 120, 2) := by decide +kernel
theorem dX4_spreadPiece_35 : decode cX4_spreadPiece 35 = .ok (.if_icmp .ge 110, 3) := by decide +kernel
theorem dX4_spreadPiece_38 : decode cX4_spreadPiece 38 = .ok (.aload_n 0, 1) := by decide +kernel
theorem dX4_spreadPiece_39 : decode cX4_spreadPiece 39 = .ok (.getfield 7, 3) := by decide +kernel
theorem dX4_spreadPiece_42 : decode cX4_spreadPiece 42 = .ok (.iload 4, 2) := by decide +kernel
theorem dX4_spreadPiece_44 : decode cX4_spreadPiece 44 = .ok (.iconst 2, 1) := by decide +kernel
theorem dX4_spreadPiece_45 : decode cX4_spreadPiece 45 = .ok (.idiv, 1) := by decide +kernel
theorem dX4_spreadPiece_46 : decode cX4_spreadPiece 46 = .ok (.baload, 1) := by decide +kernel
theorem dX4_spreadPiece_47 : decode cX4_spreadPiece 47 = .ok (.ifCond .eq 98, 3) := by decide +kernel
theorem dX4_spreadPiece_50 : decode cX4_spreadPiece 50 = .ok (.aload_n 0, 1) := by decide +kernel
theorem dX4_spreadPiece_51 : decode cX4_spreadPiece 51 = .ok (.getfield 23, 3) := by decide +kernel
theorem dX4_spreadPiece_54 : decode cX4_spreadPiece 54 = .ok (.iload 4, 2) := by decide +kernel
theorem dX4_spreadPiece_56 : decode cX4_spreadPiece 56 = .ok (.iaload, 1) := by decide +kernel
theorem dX4_spreadPiece_57 : decode cX4_spreadPiece 57 = .ok (.ifCond .ge 88, 3) := by decide +kernel
theorem dX4_spreadPiece_60 : decode cX4_spreadPiece 60 = .ok (.iload 5, 2) := by decide +kernel
theorem dX4_spreadPiece_62 : decode cX4_spreadPiece 62 = .ok (.ifCond .ne 70, 3) := by decide +kernel
theorem dX4_spreadPiece_65 : decode cX4_spreadPiece 65 = .ok (.aload_n 0, 1) := by decide +kernel
theorem dX4_spreadPiece_66 : decode cX4_spreadPiece 66 = .ok (.getfield 23, 3) := by decide +kernel
theorem dX4_spreadPiece_69 : decode cX4_spreadPiece 69 = .ok (.iload 6, 2) := by decide +kernel
theorem dX4_spreadPiece_71 : decode cX4_spreadPiece 71 = .ok (.iaload, 1) := by decide +kernel
theorem dX4_spreadPiece_72 : decode cX4_spreadPiece 72 = .ok (.iload_n 2, 1) := by decide +kernel
theorem dX4_spreadPiece_73 : decode cX4_spreadPiece 73 = .ok (.if_icmp .ne 63, 3) := by decide +kernel
theorem dX4_spreadPiece_76 : decode cX4_spreadPiece 76 = .ok (.aload_n 0, 1) := by decide +kernel
theorem dX4_spreadPiece_77 : decode cX4_spreadPiece 77 = .ok (.getfield 7, 3) := by decide +kernel
theorem dX4_spreadPiece_80 : decode cX4_spreadPiece 80 = .ok (.iload 6, 2) := by decide +kernel
theorem dX4_spreadPiece_82 : decode cX4_spreadPiece 82 = .ok (.iconst 2, 1) := by decide +kernel
theorem dX4_spreadPiece_83 : decode cX4_spreadPiece 83 = .ok (.idiv, 1) := by decide +kernel
theorem dX4_spreadPiece_84 : decode cX4_spreadPiece 84 = .ok (.baload, 1) := by decide +kernel
theorem dX4_spreadPiece_85 : decode cX4_spreadPiece 85 = .ok (.ifCond .eq 51, 3) := by decide +kernel
theorem dX4_spreadPiece_88 : decode cX4_spreadPiece 88 = .ok (.aload_n 0, 1) := by decide +kernel
theorem dX4_spreadPiece_89 : decode cX4_spreadPiece 89 = .ok (.getfield 13, 3) := by decide +kernel
theorem dX4_spreadPiece_92 : decode cX4_spreadPiece 92 = .ok (.iload 6, 2) := by decide +kernel
theorem dX4_spreadPiece_94 : decode cX4_spreadPiece 94 = .ok (.iaload, 1) := by decide +kernel
theorem dX4_spreadPiece_95 : decode cX4_spreadPiece 95 = .ok (.aload_n 0, 1) := by decide +kernel
theorem dX4_spreadPiece_96 : decode cX4_spreadPiece 96 = .ok (.getfield 13, 3) := by decide +kernel
theorem dX4_spreadPiece_99 : decode cX4_spreadPiece 99 = .ok (.iload 4, 2) := by decide +kernel
theorem dX4_spreadPiece_101 : decode cX4_spreadPiece 101 = .ok (.iaload, 1) := by decide +kernel
theorem dX4_spreadPiece_102 : decode cX4_spreadPiece 102 = .ok (.if_icmp .ne 20, 3) := by decide +kernel
theorem dX4_spreadPiece_105 : decode cX4_spreadPiece 105 = .ok (.aload_n 0, 1) := by decide +kernel
theorem dX4_spreadPiece_106 : decode cX4_spreadPiece 106 = .ok (.getfield 17, 3) := by decide +kernel
theorem dX4_spreadPiece_109 : decode cX4_spreadPiece 109 = .ok (.iload 6, 2) := by decide +kernel
theorem dX4_spreadPiece_111 : decode cX4_spreadPiece 111 = .ok (.iaload, 1) := by decide +kernel
theorem dX4_spreadPiece_112 : decode cX4_spreadPiece 112 = .ok (.aload_n 0, 1) := by decide +kernel
theorem dX4_spreadPiece_113 : decode cX4_spreadPiece 113 = .ok (.getfield 17, 3) := by decide +kernel
theorem dX4_spreadPiece_116 : decode cX4_spreadPiece 116 = .ok (.iload 4, 2) := by decide +kernel
theorem dX4_spreadPiece_118 : decode cX4_spreadPiece 118 = .ok (.iaload, 1) := by decide +kernel
theorem dX4_spreadPiece_119 : decode cX4_spreadPiece 119 = .ok (.if_icmp .eq 13, 3) := by decide +kernel
theorem dX4_spreadPiece_122 : decode cX4_spreadPiece 122 = .ok (.iload 6, 2) := by decide +kernel
theorem dX4_spreadPiece_124 : decode cX4_spreadPiece 124 = .ok (.iload 4, 2) := by decide +kernel
theorem dX4_spreadPiece_126 : decode cX4_spreadPiece 126 = .ok (.invokestatic 80, 3) := by decide +kernel
theorem dX4_spreadPiece_129 : decode cX4_spreadPiece 129 = .ok (.if_icmp .ne 7, 3) := by decide +kernel
theorem dX4_spreadPiece_132 : decode cX4_spreadPiece 132 = .ok (.iconst 1, 1) := by decide +kernel
theorem dX4_spreadPiece_133 : decode cX4_spreadPiece 133 = .ok (.goto 4, 3) := by decide +kernel
theorem dX4_spreadPiece_136 : decode cX4_spreadPiece 136 = .ok (.iconst 0, 1) := by decide +kernel
theorem dX4_spreadPiece_137 : decode cX4_spreadPiece 137 = .ok (.istore 5, 2) := by decide +kernel
theorem dX4_spreadPiece_139 : decode cX4_spreadPiece 139 = .ok (.iinc 6 1, 3) := by decide +kernel
theorem dX4_spreadPiece_142 : decode cX4_spreadPiece 142 = .ok (.goto (-111), 3) := by decide +kernel
theorem dX4_spreadPiece_145 : decode cX4_spreadPiece 145 = .ok (.iload 5, 2) := by decide +kernel
theorem dX4_spreadPiece_147 : decode cX4_spreadPiece 147 = .ok (.ifCond .eq 13, 3) := by decide +kernel
theorem dX4_spreadPiece_150 : decode cX4_spreadPiece 150 = .ok (.aload_n 0, 1) := by decide +kernel
theorem dX4_spreadPiece_151 : decode cX4_spreadPiece 151 = .ok (.getfield 23, 3) := by decide +kernel
theorem dX4_spreadPiece_154 : decode cX4_spreadPiece 154 = .ok (.iload 4, 2) := by decide +kernel
theorem dX4_spreadPiece_156 : decode cX4_spreadPiece 156 = .ok (.iload_n 2, 1) := by decide +kernel
theorem dX4_spreadPiece_157 : decode cX4_spreadPiece 157 = .ok (.iastore, 1) := by decide +kernel
theorem dX4_spreadPiece_158 : decode cX4_spreadPiece 158 = .ok (.iconst 1, 1) := by decide +kernel
theorem dX4_spreadPiece_159 : decode cX4_spreadPiece 159 = .ok (.istore_n 3, 1) := by decide +kernel
theorem dX4_spreadPiece_160 : decode cX4_spreadPiece 160 = .ok (.iinc 4 1, 3) := by decide +kernel
theorem dX4_spreadPiece_163 : decode cX4_spreadPiece 163 = .ok (.goto (-145), 3) := by decide +kernel
theorem dX4_spreadPiece_166 : decode cX4_spreadPiece 166 = .ok (.goto (-157), 3) := by decide +kernel
theorem dX4_spreadPiece_169 : decode cX4_spreadPiece 169 = .ok (.return_, 1) := by decide +kernel
set_option maxRecDepth 20000 in
theorem ggX4_makeRound_X4_back : GoodIn wsX4_makeRound wsX4_back := goodIn_r _ [11] (by decide +kernel) (by decide +kernel)
set_option maxRecDepth 20000 in
theorem gX4_makeRound_X4_back : GoodIn wsX4_makeRound (va_wsS RX4 80 yX4_back wsX4_back) := goodIn_app (goodIn_of _ (by decide +kernel)) ggX4_makeRound_X4_back
theorem dX4_makeRound_0 : decode cX4_makeRound 0 = .ok (.aload_n 0, 1) := by decide +kernel
theorem dX4_makeRound_1 : decode cX4_makeRound 1 = .ok (.getfield 29, 3) := by decide +kernel
theorem dX4_makeRound_4 : decode cX4_makeRound 4 = .ok (.aload_n 0, 1) := by decide +kernel
theorem dX4_makeRound_5 : decode cX4_makeRound 5 = .ok (.getfield 95, 3) := by decide +kernel
theorem dX4_makeRound_8 : decode cX4_makeRound 8 = .ok (.iload_n 1, 1) := by decide +kernel
theorem dX4_makeRound_9 : decode cX4_makeRound 9 = .ok (.iastore, 1) := by decide +kernel
theorem dX4_makeRound_10 : decode cX4_makeRound 10 = .ok (.aload_n 0, 1) := by decide +kernel
theorem dX4_makeRound_11 : decode cX4_makeRound 11 = .ok (.getfield 32, 3) := by decide +kernel
theorem dX4_makeRound_14 : decode cX4_makeRound 14 = .ok (.aload_n 0, 1) := by decide +kernel
theorem dX4_makeRound_15 : decode cX4_makeRound 15 = .ok (.getfield 95, 3) := by decide +kernel
theorem dX4_makeRound_18 : decode cX4_makeRound 18 = .ok (.lconst 0, 1) := by decide +kernel
theorem dX4_makeRound_19 : decode cX4_makeRound 19 = .ok (.lastore, 1) := by decide +kernel
theorem dX4_makeRound_20 : decode cX4_makeRound 20 = .ok (.iload_n 1, 1) := by decide +kernel
theorem dX4_makeRound_21 : decode cX4_makeRound 21 = .ok (.istore_n 2, 1) := by decide +kernel
theorem dX4_makeRound_22 : decode cX4_makeRound 22 = .ok (.iconst 1, 1) := by decide +kernel
theorem dX4_makeRound_23 : decode cX4_makeRound 23 = .ok (.istore_n 3, 1) := by decide +kernel
theorem dX4_makeRound_24 : decode cX4_makeRound 24 = .ok (.iload_n 3, 1) := by decide +kernel
theorem dX4_makeRound_25 : decode cX4_makeRound 25 = .ok (.ifCond .eq 90, 3) := by decide +kernel
theorem dX4_makeRound_28 : decode cX4_makeRound 28 = .ok (.aload_n 0, 1) := by decide +kernel
theorem dX4_makeRound_29 : decode cX4_makeRound 29 = .ok (.getfield 26, 3) := by decide +kernel
theorem dX4_makeRound_32 : decode cX4_makeRound 32 = .ok (.iload_n 2, 1) := by decide +kernel
theorem dX4_makeRound_33 : decode cX4_makeRound 33 = .ok (.aload_n 0, 1) := by decide +kernel
theorem dX4_makeRound_34 : decode cX4_makeRound 34 = .ok (.getfield 95, 3) := by decide +kernel
theorem dX4_makeRound_37 : decode cX4_makeRound 37 = .ok (.iastore, 1) := by decide +kernel
theorem dX4_makeRound_38 : decode cX4_makeRound 38 = .ok (.aload_n 0, 1) := by decide +kernel
theorem dX4_makeRound_39 : decode cX4_makeRound 39 = .ok (.getfield 32, 3) := by decide +kernel
theorem dX4_makeRound_42 : decode cX4_makeRound 42 = .ok (.aload_n 0, 1) := by decide +kernel
theorem dX4_makeRound_43 : decode cX4_makeRound 43 = .ok (.getfield 95, 3) := by decide +kernel
theorem dX4_makeRound_46 : decode cX4_makeRound 46 = .ok (.aload_n 0, 1) := by decide +kernel
theorem dX4_makeRound_47 : decode cX4_makeRound 47 = .ok (.getfield 32, 3) := by decide +kernel
theorem dX4_makeRound_50 : decode cX4_makeRound 50 = .ok (.aload_n 0, 1) := by decide +kernel
theorem dX4_makeRound_51 : decode cX4_makeRound 51 = .ok (.getfield 95, 3) := by decide +kernel
theorem dX4_makeRound_54 : decode cX4_makeRound 54 = .ok (.laload, 1) := by decide +kernel
theorem dX4_makeRound_55 : decode cX4_makeRound 55 = .ok (.aload_n 0, 1) := by decide +kernel
theorem dX4_makeRound_56 : decode cX4_makeRound 56 = .ok (.getfield 13, 3) := by decide +kernel
theorem dX4_makeRound_59 : decode cX4_makeRound 59 = .ok (.iload_n 2, 1) := by decide +kernel
theorem dX4_makeRound_60 : decode cX4_makeRound 60 = .ok (.iaload, 1) := by decide +kernel
theorem dX4_makeRound_61 : decode cX4_makeRound 61 = .ok (.i2l, 1) := by decide +kernel
theorem dX4_makeRound_62 : decode cX4_makeRound 62 = .ok (.aload_n 0, 1) := by decide +kernel
theorem dX4_makeRound_63 : decode cX4_makeRound 63 = .ok (.getfield 17, 3) := by decide +kernel
theorem dX4_makeRound_66 : decode cX4_makeRound 66 = .ok (.iload_n 2, 1) := by decide +kernel
theorem dX4_makeRound_67 : decode cX4_makeRound 67 = .ok (.invokestatic 80, 3) := by decide +kernel
theorem dX4_makeRound_70 : decode cX4_makeRound 70 = .ok (.iaload, 1) := by decide +kernel
theorem dX4_makeRound_71 : decode cX4_makeRound 71 = .ok (.i2l, 1) := by decide +kernel
theorem dX4_makeRound_72 : decode cX4_makeRound 72 = .ok (.lmul, 1) := by decide +kernel
theorem dX4_makeRound_73 : decode cX4_makeRound 73 = .ok (.ladd, 1) := by decide +kernel
theorem dX4_makeRound_74 : decode cX4_makeRound 74 = .ok (.aload_n 0, 1) := by decide +kernel
theorem dX4_makeRound_75 : decode cX4_makeRound 75 = .ok (.getfield 13, 3) := by decide +kernel
theorem dX4_makeRound_78 : decode cX4_makeRound 78 = .ok (.iload_n 2, 1) := by decide +kernel
theorem dX4_makeRound_79 : decode cX4_makeRound 79 = .ok (.invokestatic 80, 3) := by decide +kernel
theorem dX4_makeRound_82 : decode cX4_makeRound 82 = .ok (.iaload, 1) := by decide +kernel
theorem dX4_makeRound_83 : decode cX4_makeRound 83 = .ok (.i2l, 1) := by decide +kernel
theorem dX4_makeRound_84 : decode cX4_makeRound 84 = .ok (.aload_n 0, 1) := by decide +kernel
theorem dX4_makeRound_85 : decode cX4_makeRound 85 = .ok (.getfield 17, 3) := by decide +kernel
theorem dX4_makeRound_88 : decode cX4_makeRound 88 = .ok (.iload_n 2, 1) := by decide +kernel
theorem dX4_makeRound_89 : decode cX4_makeRound 89 = .ok (.iaload, 1) := by decide +kernel
theorem dX4_makeRound_90 : decode cX4_makeRound 90 = .ok (.i2l, 1) := by decide +kernel
theorem dX4_makeRound_91 : decode cX4_makeRound 91 = .ok (.lmul, 1) := by decide +kernel
theorem dX4_makeRound_92 : decode cX4_makeRound 92 = .ok (.lsub, 1) := by decide +kernel
theorem dX4_makeRound_93 : decode cX4_makeRound 93 = .ok (.lastore, 1) := by decide +kernel
theorem dX4_makeRound_94 : decode cX4_makeRound 94 = .ok (.aload_n 0, 1) := by decide +kernel
theorem dX4_makeRound_95 : decode cX4_makeRound 95 = .ok (.getfield 20, 3) := by decide +kernel
theorem dX4_makeRound_98 : decode cX4_makeRound 98 = .ok (.iload_n 2, 1) := by decide +kernel
theorem dX4_makeRound_99 : decode cX4_makeRound 99 = .ok (.iaload, 1) := by decide +kernel
theorem dX4_makeRound_100 : decode cX4_makeRound 100 = .ok (.istore_n 2, 1) := by decide +kernel
theorem dX4_makeRound_101 : decode cX4_makeRound 101 = .ok (.iload_n 2, 1) := by decide +kernel
theorem dX4_makeRound_102 : decode cX4_makeRound 102 = .ok (.iload_n 1, 1) := by decide +kernel
theorem dX4_makeRound_103 : decode cX4_makeRound 103 = .ok (.if_icmp .eq 7, 3) := by decide +kernel
theorem dX4_makeRound_106 : decode cX4_makeRound 106 = .ok (.iconst 1, 1) := by decide +kernel
theorem dX4_makeRound_107 : decode cX4_makeRound 107 = .ok (.goto 4, 3) := by decide +kernel
theorem dX4_makeRound_110 : decode cX4_makeRound 110 = .ok (.iconst 0, 1) := by decide +kernel
theorem dX4_makeRound_111 : decode cX4_makeRound 111 = .ok (.istore_n 3, 1) := by decide +kernel
theorem dX4_makeRound_112 : decode cX4_makeRound 112 = .ok (.goto (-88), 3) := by decide +kernel
theorem dX4_makeRound_115 : decode cX4_makeRound 115 = .ok (.aload_n 0, 1) := by decide +kernel
theorem dX4_makeRound_116 : decode cX4_makeRound 116 = .ok (.dup, 1) := by decide +kernel
theorem dX4_makeRound_117 : decode cX4_makeRound 117 = .ok (.getfield 95, 3) := by decide +kernel
theorem dX4_makeRound_120 : decode cX4_makeRound 120 = .ok (.iconst 1, 1) := by decide +kernel
theorem dX4_makeRound_121 : decode cX4_makeRound 121 = .ok (.iadd, 1) := by decide +kernel
theorem dX4_makeRound_122 : decode cX4_makeRound 122 = .ok (.putfield 95, 3) := by decide +kernel
theorem dX4_makeRound_125 : decode cX4_makeRound 125 = .ok (.return_, 1) := by decide +kernel
set_option maxRecDepth 20000 in
theorem ggX4_isWithin_X4_back : GoodIn wsX4_isWithin wsX4_back := goodIn_r _ [8] (by decide +kernel) (by decide +kernel)
set_option maxRecDepth 20000 in
theorem gX4_isWithin_X4_back : GoodIn wsX4_isWithin (va_wsS RX4 80 yX4_back wsX4_back) := goodIn_app (goodIn_of _ (by decide +kernel)) ggX4_isWithin_X4_back
set_option maxRecDepth 20000 in
theorem ggX4_isWithin_X4_side : GoodIn wsX4_isWithin wsX4_side := goodIn_r _ [11, 12, 13, 7, 14] (by decide +kernel) (by decide +kernel)
set_option maxRecDepth 20000 in
theorem gX4_isWithin_X4_side : GoodIn wsX4_isWithin (va_wsS RX4 53 yX4_side wsX4_side) := goodIn_app (goodIn_of _ (by decide +kernel)) ggX4_isWithin_X4_side
theorem dX4_isWithin_0 : decode cX4_isWithin 0 = .ok (.iconst 0, 1) := by decide +kernel
theorem dX4_isWithin_1 : decode cX4_isWithin 1 = .ok (.istore 4, 2) := by decide +kernel
theorem dX4_isWithin_3 : decode cX4_isWithin 3 = .ok (.iconst 0, 1) := by decide +kernel
theorem dX4_isWithin_4 : decode cX4_isWithin 4 = .ok (.istore 5, 2) := by decide +kernel
theorem dX4_isWithin_6 : decode cX4_isWithin 6 = .ok (.iload 5, 2) := by decide +kernel
theorem dX4_isWithin_8 : decode cX4_isWithin 8 = .ok (.bipush 120, 2) := by decide +kernel
theorem dX4_isWithin_10 : decode cX4_isWithin 10 = .ok (.if_icmp .ge 158, 3) := by decide +kernel
theorem dX4_isWithin_13 : decode cX4_isWithin 13 = .ok (.aload_n 0, 1) := by decide +kernel
theorem dX4_isWithin_14 : decode cX4_isWithin 14 = .ok (.getfield 7, 3) := by decide +kernel
theorem dX4_isWithin_17 : decode cX4_isWithin 17 = .ok (.iload 5, 2) := by decide +kernel
theorem dX4_isWithin_19 : decode cX4_isWithin 19 = .ok (.iconst 2, 1) := by decide +kernel
theorem dX4_isWithin_20 : decode cX4_isWithin 20 = .ok (.idiv, 1) := by decide +kernel
theorem dX4_isWithin_21 : decode cX4_isWithin 21 = .ok (.baload, 1) := by decide +kernel
theorem dX4_isWithin_22 : decode cX4_isWithin 22 = .ok (.ifCond .eq 140, 3) := by decide +kernel
theorem dX4_isWithin_25 : decode cX4_isWithin 25 = .ok (.aload_n 0, 1) := by decide +kernel
theorem dX4_isWithin_26 : decode cX4_isWithin 26 = .ok (.getfield 26, 3) := by decide +kernel
theorem dX4_isWithin_29 : decode cX4_isWithin 29 = .ok (.iload 5, 2) := by decide +kernel
theorem dX4_isWithin_31 : decode cX4_isWithin 31 = .ok (.iaload, 1) := by decide +kernel
theorem dX4_isWithin_32 : decode cX4_isWithin 32 = .ok (.iload_n 1, 1) := by decide +kernel
theorem dX4_isWithin_33 : decode cX4_isWithin 33 = .ok (.if_icmp .ne 129, 3) := by decide +kernel
theorem dX4_isWithin_36 : decode cX4_isWithin 36 = .ok (.aload_n 0, 1) := by decide +kernel
theorem dX4_isWithin_37 : decode cX4_isWithin 37 = .ok (.getfield 13, 3) := by decide +kernel
theorem dX4_isWithin_40 : decode cX4_isWithin 40 = .ok (.iload 5, 2) := by decide +kernel
theorem dX4_isWithin_42 : decode cX4_isWithin 42 = .ok (.iaload, 1) := by decide +kernel
theorem dX4_isWithin_43 : decode cX4_isWithin 43 = .ok (.aload_n 0, 1) := by decide +kernel
theorem dX4_isWithin_44 : decode cX4_isWithin 44 = .ok (.getfield 13, 3) := by decide +kernel
theorem dX4_isWithin_47 : decode cX4_isWithin 47 = .ok (.iload 5, 2) := by decide +kernel
theorem dX4_isWithin_49 : decode cX4_isWithin 49 = .ok (.invokestatic 80, 3) := by decide +kernel
theorem dX4_isWithin_52 : decode cX4_isWithin 52 = .ok (.iaload, 1) := by decide +kernel
theorem dX4_isWithin_53 : decode cX4_isWithin 53 = .ok (.if_icmp .ge 8, 3) := by decide +kernel
theorem dX4_isWithin_56 : decode cX4_isWithin 56 = .ok (.iload 5, 2) := by decide +kernel
theorem dX4_isWithin_58 : decode cX4_isWithin 58 = .ok (.goto 8, 3) := by decide +kernel
theorem dX4_isWithin_61 : decode cX4_isWithin 61 = .ok (.iload 5, 2) := by decide +kernel
theorem dX4_isWithin_63 : decode cX4_isWithin 63 = .ok (.invokestatic 80, 3) := by decide +kernel
theorem dX4_isWithin_66 : decode cX4_isWithin 66 = .ok (.istore 6, 2) := by decide +kernel
theorem dX4_isWithin_68 : decode cX4_isWithin 68 = .ok (.iload 6, 2) := by decide +kernel
theorem dX4_isWithin_70 : decode cX4_isWithin 70 = .ok (.invokestatic 80, 3) := by decide +kernel
theorem dX4_isWithin_73 : decode cX4_isWithin 73 = .ok (.istore 7, 2) := by decide +kernel
theorem dX4_isWithin_75 : decode cX4_isWithin 75 = .ok (.aload_n 0, 1) := by decide +kernel
theorem dX4_isWithin_76 : decode cX4_isWithin 76 = .ok (.getfield 13, 3) := by decide +kernel
theorem dX4_isWithin_79 : decode cX4_isWithin 79 = .ok (.iload 6, 2) := by decide +kernel
theorem dX4_isWithin_81 : decode cX4_isWithin 81 = .ok (.iaload, 1) := by decide +kernel
theorem dX4_isWithin_82 : decode cX4_isWithin 82 = .ok (.iload_n 2, 1) := by decide +kernel
theorem dX4_isWithin_83 : decode cX4_isWithin 83 = .ok (.if_icmp .gt 54, 3) := by decide +kernel
theorem dX4_isWithin_86 : decode cX4_isWithin 86 = .ok (.iload_n 2, 1) := by decide +kernel
theorem dX4_isWithin_87 : decode cX4_isWithin 87 = .ok (.aload_n 0, 1) := by decide +kernel
theorem dX4_isWithin_88 : decode cX4_isWithin 88 = .ok (.getfield 13, 3) := by decide +kernel
theorem dX4_isWithin_91 : decode cX4_isWithin 91 = .ok (.iload 7, 2) := by decide +kernel
theorem dX4_isWithin_93 : decode cX4_isWithin 93 = .ok (.iaload, 1) := by decide +kernel
theorem dX4_isWithin_94 : decode cX4_isWithin 94 = .ok (.if_icmp .ge 43, 3) := by decide +kernel
theorem dX4_isWithin_97 : decode cX4_isWithin 97 = .ok (.aload_n 0, 1) := by decide +kernel
theorem dX4_isWithin_98 : decode cX4_isWithin 98 = .ok (.getfield 13, 3) := by decide +kernel
theorem dX4_isWithin_101 : decode cX4_isWithin 101 = .ok (.iload 6, 2) := by decide +kernel
theorem dX4_isWithin_103 : decode cX4_isWithin 103 = .ok (.iaload, 1) := by decide +kernel
theorem dX4_isWithin_104 : decode cX4_isWithin 104 = .ok (.aload_n 0, 1) := by decide +kernel
theorem dX4_isWithin_105 : decode cX4_isWithin 105 = .ok (.getfield 17, 3) := by decide +kernel
theorem dX4_isWithin_108 : decode cX4_isWithin 108 = .ok (.iload 6, 2) := by decide +kernel
theorem dX4_isWithin_110 : decode cX4_isWithin 110 = .ok (.iaload, 1) := by decide +kernel
theorem dX4_isWithin_111 : decode cX4_isWithin 111 = .ok (.aload_n 0, 1) := by decide +kernel
theorem dX4_isWithin_112 : decode cX4_isWithin 112 = .ok (.getfield 13, 3) := by decide +kernel
theorem dX4_isWithin_115 : decode cX4_isWithin 115 = .ok (.iload 7, 2) := by decide +kernel
theorem dX4_isWithin_117 : decode cX4_isWithin 117 = .ok (.iaload, 1) := by decide +kernel
theorem dX4_isWithin_118 : decode cX4_isWithin 118 = .ok (.aload_n 0, 1) := by decide +kernel
theorem dX4_isWithin_119 : decode cX4_isWithin 119 = .ok (.getfield 17, 3) := by decide +kernel
theorem dX4_isWithin_122 : decode cX4_isWithin 122 = .ok (.iload 7, 2) := by decide +kernel
theorem dX4_isWithin_124 : decode cX4_isWithin 124 = .ok (.iaload, 1) := by decide +kernel
theorem dX4_isWithin_125 : decode cX4_isWithin 125 = .ok (.iload_n 2, 1) := by decide +kernel
theorem dX4_isWithin_126 : decode cX4_isWithin 126 = .ok (.iload_n 3, 1) := by decide +kernel
theorem dX4_isWithin_127 : decode cX4_isWithin 127 = .ok (.invokestatic 53, 3) := by decide +kernel
theorem dX4_isWithin_130 : decode cX4_isWithin 130 = .ok (.ifCond .ge 7, 3) := by decide +kernel
theorem dX4_isWithin_133 : decode cX4_isWithin 133 = .ok (.iconst 1, 1) := by decide +kernel
theorem dX4_isWithin_134 : decode cX4_isWithin 134 = .ok (.goto 4, 3) := by decide +kernel
theorem dX4_isWithin_137 : decode cX4_isWithin 137 = .ok (.iconst 0, 1) := by decide +kernel
theorem dX4_isWithin_138 : decode cX4_isWithin 138 = .ok (.istore 8, 2) := by decide +kernel
theorem dX4_isWithin_140 : decode cX4_isWithin 140 = .ok (.iload 8, 2) := by decide +kernel
theorem dX4_isWithin_142 : decode cX4_isWithin 142 = .ok (.ifCond .eq 16, 3) := by decide +kernel
theorem dX4_isWithin_145 : decode cX4_isWithin 145 = .ok (.iload 4, 2) := by decide +kernel
theorem dX4_isWithin_147 : decode cX4_isWithin 147 = .ok (.ifCond .ne 7, 3) := by decide +kernel
theorem dX4_isWithin_150 : decode cX4_isWithin 150 = .ok (.iconst 1, 1) := by decide +kernel
theorem dX4_isWithin_151 : decode cX4_isWithin 151 = .ok (.goto 9, 3) := by decide +kernel
theorem dX4_isWithin_154 : decode cX4_isWithin 154 = .ok (.iconst 0, 1) := by decide +kernel
theorem dX4_isWithin_155 : decode cX4_isWithin 155 = .ok (.goto 5, 3) := by decide +kernel
theorem dX4_isWithin_158 : decode cX4_isWithin 158 = .ok (.iload 4, 2) := by decide +kernel
theorem dX4_isWithin_160 : decode cX4_isWithin 160 = .ok (.istore 4, 2) := by decide +kernel
theorem dX4_isWithin_162 : decode cX4_isWithin 162 = .ok (.iinc 5 1, 3) := by decide +kernel
theorem dX4_isWithin_165 : decode cX4_isWithin 165 = .ok (.goto (-159), 3) := by decide +kernel
theorem dX4_isWithin_168 : decode cX4_isWithin 168 = .ok (.iload 4, 2) := by decide +kernel
theorem dX4_isWithin_170 : decode cX4_isWithin 170 = .ok (.ireturn, 1) := by decide +kernel
set_option maxRecDepth 20000 in
theorem ggX4_least_X4_isWithin : GoodIn wsX4_least wsX4_isWithin := goodIn_r _ [9, 10, 11, 12, 13, 14, 15, 8, 16, 17, 18, 19, 20, 21, 22, 23, 24, 25, 26, 27, 28, 29, 30, 31, 32, 33, 34, 35, 36, 37, 38] (by decide +kernel) (by decide +kernel)
set_option maxRecDepth 20000 in
theorem gX4_least_X4_isWithin : GoodIn wsX4_least (wsV RX4 98 RX4 yX4_isWithin wsX4_isWithin) := goodIn_app (goodIn_of _ (by decide +kernel)) ggX4_least_X4_isWithin
theorem dX4_least_0 : decode cX4_least 0 = .ok (.iconst (-1), 1) := by decide +kernel
theorem dX4_least_1 : decode cX4_least 1 = .ok (.istore 4, 2) := by decide +kernel
theorem dX4_least_3 : decode cX4_least 3 = .ok (.iconst 0, 1) := by decide +kernel
theorem dX4_least_4 : decode cX4_least 4 = .ok (.istore 5, 2) := by decide +kernel
theorem dX4_least_6 : decode cX4_least 6 = .ok (.iload 5, 2) := by decide +kernel
theorem dX4_least_8 : decode cX4_least 8 = .ok (.aload_n 0, 1) := by decide +kernel
theorem dX4_least_9 : decode cX4_least 9 = .ok (.getfield 95, 3) := by decide +kernel
theorem dX4_least_12 : decode cX4_least 12 = .ok (.if_icmp .ge 92, 3) := by decide +kernel
theorem dX4_least_15 : decode cX4_least 15 = .ok (.aload_n 0, 1) := by decide +kernel
theorem dX4_least_16 : decode cX4_least 16 = .ok (.getfield 32, 3) := by decide +kernel
theorem dX4_least_19 : decode cX4_least 19 = .ok (.iload 5, 2) := by decide +kernel
theorem dX4_least_21 : decode cX4_least 21 = .ok (.laload, 1) := by decide +kernel
theorem dX4_least_22 : decode cX4_least 22 = .ok (.lconst 0, 1) := by decide +kernel
theorem dX4_least_23 : decode cX4_least 23 = .ok (.lcmp, 1) := by decide +kernel
theorem dX4_least_24 : decode cX4_least 24 = .ok (.ifCond .le 46, 3) := by decide +kernel
theorem dX4_least_27 : decode cX4_least 27 = .ok (.aload_n 0, 1) := by decide +kernel
theorem dX4_least_28 : decode cX4_least 28 = .ok (.getfield 23, 3) := by decide +kernel
theorem dX4_least_31 : decode cX4_least 31 = .ok (.aload_n 0, 1) := by decide +kernel
theorem dX4_least_32 : decode cX4_least 32 = .ok (.getfield 29, 3) := by decide +kernel
theorem dX4_least_35 : decode cX4_least 35 = .ok (.iload 5, 2) := by decide +kernel
theorem dX4_least_37 : decode cX4_least 37 = .ok (.iaload, 1) := by decide +kernel
theorem dX4_least_38 : decode cX4_least 38 = .ok (.iaload, 1) := by decide +kernel
theorem dX4_least_39 : decode cX4_least 39 = .ok (.iload_n 3, 1) := by decide +kernel
theorem dX4_least_40 : decode cX4_least 40 = .ok (.if_icmp .eq 30, 3) := by decide +kernel
theorem dX4_least_43 : decode cX4_least 43 = .ok (.iload 4, 2) := by decide +kernel
theorem dX4_least_45 : decode cX4_least 45 = .ok (.ifCond .lt 21, 3) := by decide +kernel
theorem dX4_least_48 : decode cX4_least 48 = .ok (.aload_n 0, 1) := by decide +kernel
theorem dX4_least_49 : decode cX4_least 49 = .ok (.getfield 32, 3) := by decide +kernel
theorem dX4_least_52 : decode cX4_least 52 = .ok (.iload 5, 2) := by decide +kernel
theorem dX4_least_54 : decode cX4_least 54 = .ok (.laload, 1) := by decide +kernel
theorem dX4_least_55 : decode cX4_least 55 = .ok (.aload_n 0, 1) := by decide +kernel
theorem dX4_least_56 : decode cX4_least 56 = .ok (.getfield 32, 3) := by decide +kernel
theorem dX4_least_59 : decode cX4_least 59 = .ok (.iload 4, 2) := by decide +kernel
theorem dX4_least_61 : decode cX4_least 61 = .ok (.laload, 1) := by decide +kernel
theorem dX4_least_62 : decode cX4_least 62 = .ok (.lcmp, 1) := by decide +kernel
theorem dX4_least_63 : decode cX4_least 63 = .ok (.ifCond .ge 7, 3) := by decide +kernel
theorem dX4_least_66 : decode cX4_least 66 = .ok (.iconst 1, 1) := by decide +kernel
theorem dX4_least_67 : decode cX4_least 67 = .ok (.goto 4, 3) := by decide +kernel
theorem dX4_least_70 : decode cX4_least 70 = .ok (.iconst 0, 1) := by decide +kernel
theorem dX4_least_71 : decode cX4_least 71 = .ok (.istore 6, 2) := by decide +kernel
theorem dX4_least_73 : decode cX4_least 73 = .ok (.iload 6, 2) := by decide +kernel
theorem dX4_least_75 : decode cX4_least 75 = .ok (.ifCond .eq 19, 3) := by decide +kernel
theorem dX4_least_78 : decode cX4_least 78 = .ok (.aload_n 0, 1) := by decide +kernel
theorem dX4_least_79 : decode cX4_least 79 = .ok (.iload 5, 2) := by decide +kernel
theorem dX4_least_81 : decode cX4_least 81 = .ok (.iload_n 1, 1) := by decide +kernel
theorem dX4_least_82 : decode cX4_least 82 = .ok (.iload_n 2, 1) := by decide +kernel
theorem dX4_least_83 : decode cX4_least 83 = .ok (.invokevirtual 98, 3) := by decide +kernel
theorem dX4_least_86 : decode cX4_least 86 = .ok (.ifCond .eq 8, 3) := by decide +kernel
theorem dX4_least_89 : decode cX4_least 89 = .ok (.iload 5, 2) := by decide +kernel
theorem dX4_least_91 : decode cX4_least 91 = .ok (.goto 5, 3) := by decide +kernel
theorem dX4_least_94 : decode cX4_least 94 = .ok (.iload 4, 2) := by decide +kernel
theorem dX4_least_96 : decode cX4_least 96 = .ok (.istore 4, 2) := by decide +kernel
theorem dX4_least_98 : decode cX4_least 98 = .ok (.iinc 5 1, 3) := by decide +kernel
theorem dX4_least_101 : decode cX4_least 101 = .ok (.goto (-95), 3) := by decide +kernel
theorem dX4_least_104 : decode cX4_least 104 = .ok (.iload 4, 2) := by decide +kernel
theorem dX4_least_106 : decode cX4_least 106 = .ok (.ireturn, 1) := by decide +kernel
set_option maxRecDepth 20000 in
theorem ggX4_make_X4_nextOf : GoodIn wsX4_make wsX4_nextOf := goodIn_r _ [12, 13, 14, 15, 16, 11, 17, 18, 19, 20, 21, 6, 22, 23, 24, 25, 26, 27, 28, 29, 61, 62, 63, 64, 65, 66, 67, 68, 69, 70, 71, 72, 73, 74, 75, 76] (by decide +kernel) (by decide +kernel)
set_option maxRecDepth 20000 in
theorem gX4_make_X4_nextOf : GoodIn wsX4_make (wsV RX4 104 RX4 yX4_nextOf wsX4_nextOf) := goodIn_app (goodIn_of _ (by decide +kernel)) ggX4_make_X4_nextOf
set_option maxRecDepth 20000 in
theorem ggX4_make_X4_spreadPiece : GoodIn wsX4_make wsX4_spreadPiece := goodIn_r _ [33, 4, 6, 13, 14, 15, 16, 11, 17, 61, 62, 63, 64, 65, 66, 67, 68, 69, 70, 71, 72, 73, 74, 75, 76] (by decide +kernel) (by decide +kernel)
set_option maxRecDepth 20000 in
theorem gX4_make_X4_spreadPiece : GoodIn wsX4_make (wsV RX4 107 RX4 yX4_spreadPiece wsX4_spreadPiece) := goodIn_app (goodIn_of _ (by decide +kernel)) ggX4_make_X4_spreadPiece
set_option maxRecDepth 20000 in
theorem ggX4_make_X4_makeRound : GoodIn wsX4_make wsX4_makeRound := goodIn_r _ [37, 38, 3, 39, 5, 13, 14, 7, 15, 16, 11, 17, 61, 62, 63, 64, 65, 66, 67, 68, 69, 70, 71, 72, 73, 74, 75, 76] (by decide +kernel) (by decide +kernel)
set_option maxRecDepth 20000 in
theorem gX4_make_X4_makeRound : GoodIn wsX4_make (wsV RX4 111 RX4 yX4_makeRound wsX4_makeRound) := goodIn_app (goodIn_of _ (by decide +kernel)) ggX4_make_X4_makeRound
set_option maxRecDepth 20000 in
theorem ggX4_make_X4_number : GoodIn wsX4_make wsX4_number := goodIn_r _ [43, 44, 3, 45, 38, 39, 13, 14, 4, 46, 47, 48, 49, 11, 50, 51, 52, 53, 54, 6, 5, 15, 16, 17, 55, 56, 57, 58, 59, 60, 61, 62, 63, 64, 65, 66, 67, 68, 69, 70, 71, 72, 73, 74, 75, 76] (by decide +kernel) (by decide +kernel)
set_option maxRecDepth 20000 in
theorem gX4_make_X4_number : GoodIn wsX4_make (wsV RX4 115 RX4 yX4_number wsX4_number) := goodIn_app (goodIn_of _ (by decide +kernel)) ggX4_make_X4_number
theorem dX4_make_0 : decode cX4_make 0 = .ok (.aload_n 0, 1) := by decide +kernel
theorem dX4_make_1 : decode cX4_make 1 = .ok (.getfield 76, 3) := by decide +kernel
theorem dX4_make_4 : decode cX4_make 4 = .ok (.ifCond .eq 4, 3) := by decide +kernel
theorem dX4_make_7 : decode cX4_make 7 = .ok (.return_, 1) := by decide +kernel
theorem dX4_make_8 : decode cX4_make 8 = .ok (.aload_n 0, 1) := by decide +kernel
theorem dX4_make_9 : decode cX4_make 9 = .ok (.iconst 1, 1) := by decide +kernel
theorem dX4_make_10 : decode cX4_make 10 = .ok (.putfield 76, 3) := by decide +kernel
theorem dX4_make_13 : decode cX4_make 13 = .ok (.aload_n 0, 1) := by decide +kernel
theorem dX4_make_14 : decode cX4_make 14 = .ok (.iconst 0, 1) := by decide +kernel
theorem dX4_make_15 : decode cX4_make 15 = .ok (.putfield 101, 3) := by decide +kernel
theorem dX4_make_18 : decode cX4_make 18 = .ok (.aload_n 0, 1) := by decide +kernel
theorem dX4_make_19 : decode cX4_make 19 = .ok (.iconst 0, 1) := by decide +kernel
theorem dX4_make_20 : decode cX4_make 20 = .ok (.putfield 95, 3) := by decide +kernel
theorem dX4_make_23 : decode cX4_make 23 = .ok (.iconst 0, 1) := by decide +kernel
theorem dX4_make_24 : decode cX4_make 24 = .ok (.istore_n 1, 1) := by decide +kernel
theorem dX4_make_25 : decode cX4_make 25 = .ok (.iload_n 1, 1) := by decide +kernel
theorem dX4_make_26 : decode cX4_make 26 = .ok (.bipush 120, 2) := by decide +kernel
theorem dX4_make_28 : decode cX4_make 28 = .ok (.if_icmp .ge 23, 3) := by decide +kernel
theorem dX4_make_31 : decode cX4_make 31 = .ok (.aload_n 0, 1) := by decide +kernel
theorem dX4_make_32 : decode cX4_make 32 = .ok (.getfield 23, 3) := by decide +kernel
theorem dX4_make_35 : decode cX4_make 35 = .ok (.iload_n 1, 1) := by decide +kernel
theorem dX4_make_36 : decode cX4_make 36 = .ok (.iconst (-1), 1) := by decide +kernel
theorem dX4_make_37 : decode cX4_make 37 = .ok (.iastore, 1) := by decide +kernel
theorem dX4_make_38 : decode cX4_make 38 = .ok (.aload_n 0, 1) := by decide +kernel
theorem dX4_make_39 : decode cX4_make 39 = .ok (.getfield 26, 3) := by decide +kernel
theorem dX4_make_42 : decode cX4_make 42 = .ok (.iload_n 1, 1) := by decide +kernel
theorem dX4_make_43 : decode cX4_make 43 = .ok (.iconst (-1), 1) := by decide +kernel
theorem dX4_make_44 : decode cX4_make 44 = .ok (.iastore, 1) := by decide +kernel
theorem dX4_make_45 : decode cX4_make 45 = .ok (.iinc 1 1, 3) := by decide +kernel
theorem dX4_make_48 : decode cX4_make 48 = .ok (.goto (-23), 3) := by decide +kernel
theorem dX4_make_51 : decode cX4_make 51 = .ok (.iconst 0, 1) := by decide +kernel
theorem dX4_make_52 : decode cX4_make 52 = .ok (.istore_n 1, 1) := by decide +kernel
theorem dX4_make_53 : decode cX4_make 53 = .ok (.iload_n 1, 1) := by decide +kernel
theorem dX4_make_54 : decode cX4_make 54 = .ok (.bipush 120, 2) := by decide +kernel
theorem dX4_make_56 : decode cX4_make 56 = .ok (.if_icmp .ge 59, 3) := by decide +kernel
theorem dX4_make_59 : decode cX4_make 59 = .ok (.aload_n 0, 1) := by decide +kernel
theorem dX4_make_60 : decode cX4_make 60 = .ok (.getfield 7, 3) := by decide +kernel
theorem dX4_make_63 : decode cX4_make 63 = .ok (.iload_n 1, 1) := by decide +kernel
theorem dX4_make_64 : decode cX4_make 64 = .ok (.iconst 2, 1) := by decide +kernel
theorem dX4_make_65 : decode cX4_make 65 = .ok (.idiv, 1) := by decide +kernel
theorem dX4_make_66 : decode cX4_make 66 = .ok (.baload, 1) := by decide +kernel
theorem dX4_make_67 : decode cX4_make 67 = .ok (.ifCond .eq 42, 3) := by decide +kernel
theorem dX4_make_70 : decode cX4_make 70 = .ok (.aload_n 0, 1) := by decide +kernel
theorem dX4_make_71 : decode cX4_make 71 = .ok (.getfield 20, 3) := by decide +kernel
theorem dX4_make_74 : decode cX4_make 74 = .ok (.iload_n 1, 1) := by decide +kernel
theorem dX4_make_75 : decode cX4_make 75 = .ok (.aload_n 0, 1) := by decide +kernel
theorem dX4_make_76 : decode cX4_make 76 = .ok (.iload_n 1, 1) := by decide +kernel
theorem dX4_make_77 : decode cX4_make 77 = .ok (.invokevirtual 104, 3) := by decide +kernel
theorem dX4_make_80 : decode cX4_make 80 = .ok (.iastore, 1) := by decide +kernel
theorem dX4_make_81 : decode cX4_make 81 = .ok (.aload_n 0, 1) := by decide +kernel
theorem dX4_make_82 : decode cX4_make 82 = .ok (.getfield 23, 3) := by decide +kernel
theorem dX4_make_85 : decode cX4_make 85 = .ok (.iload_n 1, 1) := by decide +kernel
theorem dX4_make_86 : decode cX4_make 86 = .ok (.iaload, 1) := by decide +kernel
theorem dX4_make_87 : decode cX4_make 87 = .ok (.ifCond .ge 22, 3) := by decide +kernel
theorem dX4_make_90 : decode cX4_make 90 = .ok (.aload_n 0, 1) := by decide +kernel
theorem dX4_make_91 : decode cX4_make 91 = .ok (.iload_n 1, 1) := by decide +kernel
theorem dX4_make_92 : decode cX4_make 92 = .ok (.aload_n 0, 1) := by decide +kernel
theorem dX4_make_93 : decode cX4_make 93 = .ok (.getfield 101, 3) := by decide +kernel
theorem dX4_make_96 : decode cX4_make 96 = .ok (.invokevirtual 107, 3) := by decide +kernel
theorem dX4_make_99 : decode cX4_make 99 = .ok (.aload_n 0, 1) := by decide +kernel
theorem dX4_make_100 : decode cX4_make 100 = .ok (.dup, 1) := by decide +kernel
theorem dX4_make_101 : decode cX4_make 101 = .ok (.getfield 101, 3) := by decide +kernel
theorem dX4_make_104 : decode cX4_make 104 = .ok (.iconst 1, 1) := by decide +kernel
theorem dX4_make_105 : decode cX4_make 105 = .ok (.iadd, 1) := by decide +kernel
theorem dX4_make_106 : decode cX4_make 106 = .ok (.putfield 101, 3) := by decide +kernel
theorem dX4_make_109 : decode cX4_make 109 = .ok (.iinc 1 1, 3) := by decide +kernel
theorem dX4_make_112 : decode cX4_make 112 = .ok (.goto (-59), 3) := by decide +kernel
theorem dX4_make_115 : decode cX4_make 115 = .ok (.iconst 0, 1) := by decide +kernel
theorem dX4_make_116 : decode cX4_make 116 = .ok (.istore_n 1, 1) := by decide +kernel
theorem dX4_make_117 : decode cX4_make 117 = .ok (.iload_n 1, 1) := by decide +kernel
theorem dX4_make_118 : decode cX4_make 118 = .ok (.bipush 120, 2) := by decide +kernel
theorem dX4_make_120 : decode cX4_make 120 = .ok (.if_icmp .ge 34, 3) := by decide +kernel
theorem dX4_make_123 : decode cX4_make 123 = .ok (.aload_n 0, 1) := by decide +kernel
theorem dX4_make_124 : decode cX4_make 124 = .ok (.getfield 7, 3) := by decide +kernel
theorem dX4_make_127 : decode cX4_make 127 = .ok (.iload_n 1, 1) := by decide +kernel
theorem dX4_make_128 : decode cX4_make 128 = .ok (.iconst 2, 1) := by decide +kernel
theorem dX4_make_129 : decode cX4_make 129 = .ok (.idiv, 1) := by decide +kernel
theorem dX4_make_130 : decode cX4_make 130 = .ok (.baload, 1) := by decide +kernel
theorem dX4_make_131 : decode cX4_make 131 = .ok (.ifCond .eq 17, 3) := by decide +kernel
theorem dX4_make_134 : decode cX4_make 134 = .ok (.aload_n 0, 1) := by decide +kernel
theorem dX4_make_135 : decode cX4_make 135 = .ok (.getfield 26, 3) := by decide +kernel
theorem dX4_make_138 : decode cX4_make 138 = .ok (.iload_n 1, 1) := by decide +kernel
theorem dX4_make_139 : decode cX4_make 139 = .ok (.iaload, 1) := by decide +kernel
theorem dX4_make_140 : decode cX4_make 140 = .ok (.ifCond .ge 8, 3) := by decide +kernel
theorem dX4_make_143 : decode cX4_make 143 = .ok (.aload_n 0, 1) := by decide +kernel
theorem dX4_make_144 : decode cX4_make 144 = .ok (.iload_n 1, 1) := by decide +kernel
theorem dX4_make_145 : decode cX4_make 145 = .ok (.invokevirtual 111, 3) := by decide +kernel
theorem dX4_make_148 : decode cX4_make 148 = .ok (.iinc 1 1, 3) := by decide +kernel
theorem dX4_make_151 : decode cX4_make 151 = .ok (.goto (-34), 3) := by decide +kernel
theorem dX4_make_154 : decode cX4_make 154 = .ok (.aload_n 0, 1) := by decide +kernel
theorem dX4_make_155 : decode cX4_make 155 = .ok (.invokevirtual 115, 3) := by decide +kernel
theorem dX4_make_158 : decode cX4_make 158 = .ok (.return_, 1) := by decide +kernel
set_option maxRecDepth 20000 in
theorem ggX4_number_X4_least : GoodIn wsX4_number wsX4_least := goodIn_r _ [14, 2, 5, 8, 4, 15, 16, 17, 13, 18, 19, 20, 6, 7, 21, 22, 23, 24, 25, 26, 27, 28, 29, 30, 31, 32, 33, 34, 35, 36, 37, 38, 39, 40, 41, 42, 43, 44, 45] (by decide +kernel) (by decide +kernel)
set_option maxRecDepth 20000 in
theorem gX4_number_X4_least : GoodIn wsX4_number (wsV RX4 121 RX4 yX4_least wsX4_least) := goodIn_app (goodIn_of _ (by decide +kernel)) ggX4_number_X4_least
theorem dX4_number_0 : decode cX4_number 0 = .ok (.aload_n 0, 1) := by decide +kernel
theorem dX4_number_1 : decode cX4_number 1 = .ok (.iconst 1, 1) := by decide +kernel
theorem dX4_number_2 : decode cX4_number 2 = .ok (.putfield 118, 3) := by decide +kernel
theorem dX4_number_5 : decode cX4_number 5 = .ok (.iconst 0, 1) := by decide +kernel
theorem dX4_number_6 : decode cX4_number 6 = .ok (.istore_n 1, 1) := by decide +kernel
theorem dX4_number_7 : decode cX4_number 7 = .ok (.iload_n 1, 1) := by decide +kernel
theorem dX4_number_8 : decode cX4_number 8 = .ok (.aload_n 0, 1) := by decide +kernel
theorem dX4_number_9 : decode cX4_number 9 = .ok (.getfield 95, 3) := by decide +kernel
theorem dX4_number_12 : decode cX4_number 12 = .ok (.if_icmp .gt 16, 3) := by decide +kernel
theorem dX4_number_15 : decode cX4_number 15 = .ok (.aload_n 0, 1) := by decide +kernel
theorem dX4_number_16 : decode cX4_number 16 = .ok (.getfield 39, 3) := by decide +kernel
theorem dX4_number_19 : decode cX4_number 19 = .ok (.iload_n 1, 1) := by decide +kernel
theorem dX4_number_20 : decode cX4_number 20 = .ok (.iconst (-1), 1) := by decide +kernel
theorem dX4_number_21 : decode cX4_number 21 = .ok (.iastore, 1) := by decide +kernel
theorem dX4_number_22 : decode cX4_number 22 = .ok (.iinc 1 1, 3) := by decide +kernel
theorem dX4_number_25 : decode cX4_number 25 = .ok (.goto (-18), 3) := by decide +kernel
theorem dX4_number_28 : decode cX4_number 28 = .ok (.iconst 0, 1) := by decide +kernel
theorem dX4_number_29 : decode cX4_number 29 = .ok (.istore_n 1, 1) := by decide +kernel
theorem dX4_number_30 : decode cX4_number 30 = .ok (.iload_n 1, 1) := by decide +kernel
theorem dX4_number_31 : decode cX4_number 31 = .ok (.aload_n 0, 1) := by decide +kernel
theorem dX4_number_32 : decode cX4_number 32 = .ok (.getfield 95, 3) := by decide +kernel
theorem dX4_number_35 : decode cX4_number 35 = .ok (.if_icmp .ge 109, 3) := by decide +kernel
theorem dX4_number_38 : decode cX4_number 38 = .ok (.aload_n 0, 1) := by decide +kernel
theorem dX4_number_39 : decode cX4_number 39 = .ok (.getfield 29, 3) := by decide +kernel
theorem dX4_number_42 : decode cX4_number 42 = .ok (.iload_n 1, 1) := by decide +kernel
theorem dX4_number_43 : decode cX4_number 43 = .ok (.iaload, 1) := by decide +kernel
theorem dX4_number_44 : decode cX4_number 44 = .ok (.istore_n 2, 1) := by decide +kernel
theorem dX4_number_45 : decode cX4_number 45 = .ok (.aload_n 0, 1) := by decide +kernel
theorem dX4_number_46 : decode cX4_number 46 = .ok (.getfield 32, 3) := by decide +kernel
theorem dX4_number_49 : decode cX4_number 49 = .ok (.iload_n 1, 1) := by decide +kernel
theorem dX4_number_50 : decode cX4_number 50 = .ok (.laload, 1) := by decide +kernel
theorem dX4_number_51 : decode cX4_number 51 = .ok (.lconst 0, 1) := by decide +kernel
theorem dX4_number_52 : decode cX4_number 52 = .ok (.lcmp, 1) := by decide +kernel
theorem dX4_number_53 : decode cX4_number 53 = .ok (.ifCond .le 7, 3) := by decide +kernel
theorem dX4_number_56 : decode cX4_number 56 = .ok (.iload_n 1, 1) := by decide +kernel
theorem dX4_number_57 : decode cX4_number 57 = .ok (.goto 25, 3) := by decide +kernel
theorem dX4_number_60 : decode cX4_number 60 = .ok (.aload_n 0, 1) := by decide +kernel
theorem dX4_number_61 : decode cX4_number 61 = .ok (.aload_n 0, 1) := by decide +kernel
theorem dX4_number_62 : decode cX4_number 62 = .ok (.getfield 13, 3) := by decide +kernel
theorem dX4_number_65 : decode cX4_number 65 = .ok (.iload_n 2, 1) := by decide +kernel
theorem dX4_number_66 : decode cX4_number 66 = .ok (.iaload, 1) := by decide +kernel
theorem dX4_number_67 : decode cX4_number 67 = .ok (.aload_n 0, 1) := by decide +kernel
theorem dX4_number_68 : decode cX4_number 68 = .ok (.getfield 17, 3) := by decide +kernel
theorem dX4_number_71 : decode cX4_number 71 = .ok (.iload_n 2, 1) := by decide +kernel
theorem dX4_number_72 : decode cX4_number 72 = .ok (.iaload, 1) := by decide +kernel
theorem dX4_number_73 : decode cX4_number 73 = .ok (.aload_n 0, 1) := by decide +kernel
theorem dX4_number_74 : decode cX4_number 74 = .ok (.getfield 23, 3) := by decide +kernel
theorem dX4_number_77 : decode cX4_number 77 = .ok (.iload_n 2, 1) := by decide +kernel
theorem dX4_number_78 : decode cX4_number 78 = .ok (.iaload, 1) := by decide +kernel
theorem dX4_number_79 : decode cX4_number 79 = .ok (.invokevirtual 121, 3) := by decide +kernel
theorem dX4_number_82 : decode cX4_number 82 = .ok (.istore_n 3, 1) := by decide +kernel
theorem dX4_number_83 : decode cX4_number 83 = .ok (.iload_n 3, 1) := by decide +kernel
theorem dX4_number_84 : decode cX4_number 84 = .ok (.ifCond .ge 13, 3) := by decide +kernel
theorem dX4_number_87 : decode cX4_number 87 = .ok (.aload_n 0, 1) := by decide +kernel
theorem dX4_number_88 : decode cX4_number 88 = .ok (.getfield 36, 3) := by decide +kernel
theorem dX4_number_91 : decode cX4_number 91 = .ok (.iload_n 1, 1) := by decide +kernel
theorem dX4_number_92 : decode cX4_number 92 = .ok (.iconst 0, 1) := by decide +kernel
theorem dX4_number_93 : decode cX4_number 93 = .ok (.iastore, 1) := by decide +kernel
theorem dX4_number_94 : decode cX4_number 94 = .ok (.goto 44, 3) := by decide +kernel
theorem dX4_number_97 : decode cX4_number 97 = .ok (.aload_n 0, 1) := by decide +kernel
theorem dX4_number_98 : decode cX4_number 98 = .ok (.getfield 39, 3) := by decide +kernel
theorem dX4_number_101 : decode cX4_number 101 = .ok (.iload_n 3, 1) := by decide +kernel
theorem dX4_number_102 : decode cX4_number 102 = .ok (.iaload, 1) := by decide +kernel
theorem dX4_number_103 : decode cX4_number 103 = .ok (.ifCond .ge 23, 3) := by decide +kernel
theorem dX4_number_106 : decode cX4_number 106 = .ok (.aload_n 0, 1) := by decide +kernel
theorem dX4_number_107 : decode cX4_number 107 = .ok (.getfield 39, 3) := by decide +kernel
theorem dX4_number_110 : decode cX4_number 110 = .ok (.iload_n 3, 1) := by decide +kernel
theorem dX4_number_111 : decode cX4_number 111 = .ok (.aload_n 0, 1) := by decide +kernel
theorem dX4_number_112 : decode cX4_number 112 = .ok (.getfield 118, 3) := by decide +kernel
theorem dX4_number_115 : decode cX4_number 115 = .ok (.iastore, 1) := by decide +kernel
theorem dX4_number_116 : decode cX4_number 116 = .ok (.aload_n 0, 1) := by decide +kernel
theorem dX4_number_117 : decode cX4_number 117 = .ok (.dup, 1) := by decide +kernel
theorem dX4_number_118 : decode cX4_number 118 = .ok (.getfield 118, 3) := by decide +kernel
theorem dX4_number_121 : decode cX4_number 121 = .ok (.iconst 1, 1) := by decide +kernel
theorem dX4_number_122 : decode cX4_number 122 = .ok (.iadd, 1) := by decide +kernel
theorem dX4_number_123 : decode cX4_number 123 = .ok (.putfield 118, 3) := by decide +kernel
theorem dX4_number_126 : decode cX4_number 126 = .ok (.aload_n 0, 1) := by decide +kernel
theorem dX4_number_127 : decode cX4_number 127 = .ok (.getfield 36, 3) := by decide +kernel
theorem dX4_number_130 : decode cX4_number 130 = .ok (.iload_n 1, 1) := by decide +kernel
theorem dX4_number_131 : decode cX4_number 131 = .ok (.aload_n 0, 1) := by decide +kernel
theorem dX4_number_132 : decode cX4_number 132 = .ok (.getfield 39, 3) := by decide +kernel
theorem dX4_number_135 : decode cX4_number 135 = .ok (.iload_n 3, 1) := by decide +kernel
theorem dX4_number_136 : decode cX4_number 136 = .ok (.iaload, 1) := by decide +kernel
theorem dX4_number_137 : decode cX4_number 137 = .ok (.iastore, 1) := by decide +kernel
theorem dX4_number_138 : decode cX4_number 138 = .ok (.iinc 1 1, 3) := by decide +kernel
theorem dX4_number_141 : decode cX4_number 141 = .ok (.goto (-111), 3) := by decide +kernel
theorem dX4_number_144 : decode cX4_number 144 = .ok (.return_, 1) := by decide +kernel
theorem dX4_left_0 : decode cX4_left 0 = .ok (.aload_n 0, 1) := by decide +kernel
theorem dX4_left_1 : decode cX4_left 1 = .ok (.getfield 36, 3) := by decide +kernel
theorem dX4_left_4 : decode cX4_left 4 = .ok (.aload_n 0, 1) := by decide +kernel
theorem dX4_left_5 : decode cX4_left 5 = .ok (.getfield 26, 3) := by decide +kernel
theorem dX4_left_8 : decode cX4_left 8 = .ok (.iload_n 1, 1) := by decide +kernel
theorem dX4_left_9 : decode cX4_left 9 = .ok (.iaload, 1) := by decide +kernel
theorem dX4_left_10 : decode cX4_left 10 = .ok (.iaload, 1) := by decide +kernel
theorem dX4_left_11 : decode cX4_left 11 = .ok (.ireturn, 1) := by decide +kernel
set_option maxRecDepth 20000 in
theorem ggX4_count_X4_make : GoodIn wsX4_count wsX4_make := goodIn_r _ [12, 13, 3, 4, 14, 15, 5, 16, 17, 18, 19, 11, 20, 6, 7, 21, 22, 23, 24, 25, 26, 27, 28, 29, 30, 31, 32, 33, 34, 35, 36, 37, 38, 39, 40, 41, 42, 43, 44, 45, 46, 47, 48, 49, 2, 50, 51, 52, 53, 54, 55, 56, 57, 58, 59, 60, 61, 62, 63, 64, 65, 70, 71, 72, 73, 74, 75, 76, 77, 78, 79, 80, 81, 82, 83, 84, 85] (by decide +kernel) (by decide +kernel)
set_option maxRecDepth 20000 in
theorem gX4_count_X4_make : GoodIn wsX4_count (wsV RX4 125 RX4 yX4_make wsX4_make) := goodIn_app (goodIn_of _ (by decide +kernel)) ggX4_count_X4_make
set_option maxRecDepth 20000 in
theorem ggX4_count_X4_leaves : GoodIn wsX4_count wsX4_leaves := goodIn_r _ [27, 5, 6, 7, 70, 71, 72, 73, 74, 75, 76, 77, 78, 79, 80, 81, 82, 83, 84, 85] (by decide +kernel) (by decide +kernel)
set_option maxRecDepth 20000 in
theorem gX4_count_X4_leaves : GoodIn wsX4_count (wsV RX4 88 RX4 yX4_leaves wsX4_leaves) := goodIn_app (goodIn_of _ (by decide +kernel)) ggX4_count_X4_leaves
set_option maxRecDepth 20000 in
theorem ggX4_count_X4_left : GoodIn wsX4_count wsX4_left := goodIn_r _ [69, 51, 15, 70, 71, 72, 73, 74, 75, 76, 77, 78, 79, 80, 81, 82, 83, 84, 85] (by decide +kernel) (by decide +kernel)
set_option maxRecDepth 20000 in
theorem gX4_count_X4_left : GoodIn wsX4_count (wsV RX4 128 RX4 yX4_left wsX4_left) := goodIn_app (goodIn_of _ (by decide +kernel)) ggX4_count_X4_left
theorem dX4_count_0 : decode cX4_count 0 = .ok (.aload_n 0, 1) := by decide +kernel
theorem dX4_count_1 : decode cX4_count 1 = .ok (.iconst 0, 1) := by decide +kernel
theorem dX4_count_2 : decode cX4_count 2 = .ok (.putfield 45, 3) := by decide +kernel
theorem dX4_count_5 : decode cX4_count 5 = .ok (.aload_n 0, 1) := by decide +kernel
theorem dX4_count_6 : decode cX4_count 6 = .ok (.invokevirtual 125, 3) := by decide +kernel
theorem dX4_count_9 : decode cX4_count 9 = .ok (.iload_n 1, 1) := by decide +kernel
theorem dX4_count_10 : decode cX4_count 10 = .ok (.iconst 2, 1) := by decide +kernel
theorem dX4_count_11 : decode cX4_count 11 = .ok (.if_icmp .eq 13, 3) := by decide +kernel
theorem dX4_count_14 : decode cX4_count 14 = .ok (.iload_n 1, 1) := by decide +kernel
theorem dX4_count_15 : decode cX4_count 15 = .ok (.iconst 3, 1) := by decide +kernel
theorem dX4_count_16 : decode cX4_count 16 = .ok (.if_icmp .eq 8, 3) := by decide +kernel
theorem dX4_count_19 : decode cX4_count 19 = .ok (.iload_n 1, 1) := by decide +kernel
theorem dX4_count_20 : decode cX4_count 20 = .ok (.iconst 5, 1) := by decide +kernel
theorem dX4_count_21 : decode cX4_count 21 = .ok (.if_icmp .ne 32, 3) := by decide +kernel
theorem dX4_count_24 : decode cX4_count 24 = .ok (.iload_n 1, 1) := by decide +kernel
theorem dX4_count_25 : decode cX4_count 25 = .ok (.iconst 2, 1) := by decide +kernel
theorem dX4_count_26 : decode cX4_count 26 = .ok (.if_icmp .ne 10, 3) := by decide +kernel
theorem dX4_count_29 : decode cX4_count 29 = .ok (.aload_n 0, 1) := by decide +kernel
theorem dX4_count_30 : decode cX4_count 30 = .ok (.getfield 118, 3) := by decide +kernel
theorem dX4_count_33 : decode cX4_count 33 = .ok (.goto 19, 3) := by decide +kernel
theorem dX4_count_36 : decode cX4_count 36 = .ok (.iload_n 1, 1) := by decide +kernel
theorem dX4_count_37 : decode cX4_count 37 = .ok (.iconst 3, 1) := by decide +kernel
theorem dX4_count_38 : decode cX4_count 38 = .ok (.if_icmp .ne 10, 3) := by decide +kernel
theorem dX4_count_41 : decode cX4_count 41 = .ok (.aload_n 0, 1) := by decide +kernel
theorem dX4_count_42 : decode cX4_count 42 = .ok (.getfield 101, 3) := by decide +kernel
theorem dX4_count_45 : decode cX4_count 45 = .ok (.goto 7, 3) := by decide +kernel
theorem dX4_count_48 : decode cX4_count 48 = .ok (.aload_n 0, 1) := by decide +kernel
theorem dX4_count_49 : decode cX4_count 49 = .ok (.getfield 95, 3) := by decide +kernel
theorem dX4_count_52 : decode cX4_count 52 = .ok (.ireturn, 1) := by decide +kernel
theorem dX4_count_53 : decode cX4_count 53 = .ok (.iconst 0, 1) := by decide +kernel
theorem dX4_count_54 : decode cX4_count 54 = .ok (.istore_n 2, 1) := by decide +kernel
theorem dX4_count_55 : decode cX4_count 55 = .ok (.iconst 0, 1) := by decide +kernel
theorem dX4_count_56 : decode cX4_count 56 = .ok (.istore_n 3, 1) := by decide +kernel
theorem dX4_count_57 : decode cX4_count 57 = .ok (.iload_n 3, 1) := by decide +kernel
theorem dX4_count_58 : decode cX4_count 58 = .ok (.bipush 120, 2) := by decide +kernel
theorem dX4_count_60 : decode cX4_count 60 = .ok (.if_icmp .ge 126, 3) := by decide +kernel
theorem dX4_count_63 : decode cX4_count 63 = .ok (.aload_n 0, 1) := by decide +kernel
theorem dX4_count_64 : decode cX4_count 64 = .ok (.getfield 7, 3) := by decide +kernel
theorem dX4_count_67 : decode cX4_count 67 = .ok (.iload_n 3, 1) := by decide +kernel
theorem dX4_count_68 : decode cX4_count 68 = .ok (.iconst 2, 1) := by decide +kernel
theorem dX4_count_69 : decode cX4_count 69 = .ok (.idiv, 1) := by decide +kernel
theorem dX4_count_70 : decode cX4_count 70 = .ok (.baload, 1) := by decide +kernel
theorem dX4_count_71 : decode cX4_count 71 = .ok (.ifCond .eq 109, 3) := by decide +kernel
theorem dX4_count_74 : decode cX4_count 74 = .ok (.iconst 1, 1) := by decide +kernel
theorem dX4_count_75 : decode cX4_count 75 = .ok (.istore 4, 2) := by decide +kernel
theorem dX4_count_77 : decode cX4_count 77 = .ok (.iconst 0, 1) := by decide +kernel
theorem dX4_count_78 : decode cX4_count 78 = .ok (.istore 5, 2) := by decide +kernel
theorem dX4_count_80 : decode cX4_count 80 = .ok (.iload 5, 2) := by decide +kernel
theorem dX4_count_82 : decode cX4_count 82 = .ok (.iload_n 3, 1) := by decide +kernel
theorem dX4_count_83 : decode cX4_count 83 = .ok (.if_icmp .ge 42, 3) := by decide +kernel
theorem dX4_count_86 : decode cX4_count 86 = .ok (.iload 4, 2) := by decide +kernel
theorem dX4_count_88 : decode cX4_count 88 = .ok (.ifCond .eq 28, 3) := by decide +kernel
theorem dX4_count_91 : decode cX4_count 91 = .ok (.aload_n 0, 1) := by decide +kernel
theorem dX4_count_92 : decode cX4_count 92 = .ok (.iload 5, 2) := by decide +kernel
theorem dX4_count_94 : decode cX4_count 94 = .ok (.aload_n 0, 1) := by decide +kernel
theorem dX4_count_95 : decode cX4_count 95 = .ok (.getfield 13, 3) := by decide +kernel
theorem dX4_count_98 : decode cX4_count 98 = .ok (.iload_n 3, 1) := by decide +kernel
theorem dX4_count_99 : decode cX4_count 99 = .ok (.iaload, 1) := by decide +kernel
theorem dX4_count_100 : decode cX4_count 100 = .ok (.aload_n 0, 1) := by decide +kernel
theorem dX4_count_101 : decode cX4_count 101 = .ok (.getfield 17, 3) := by decide +kernel
theorem dX4_count_104 : decode cX4_count 104 = .ok (.iload_n 3, 1) := by decide +kernel
theorem dX4_count_105 : decode cX4_count 105 = .ok (.iaload, 1) := by decide +kernel
theorem dX4_count_106 : decode cX4_count 106 = .ok (.invokevirtual 88, 3) := by decide +kernel
theorem dX4_count_109 : decode cX4_count 109 = .ok (.ifCond .ne 7, 3) := by decide +kernel
theorem dX4_count_112 : decode cX4_count 112 = .ok (.iconst 1, 1) := by decide +kernel
theorem dX4_count_113 : decode cX4_count 113 = .ok (.goto 4, 3) := by decide +kernel
theorem dX4_count_116 : decode cX4_count 116 = .ok (.iconst 0, 1) := by decide +kernel
theorem dX4_count_117 : decode cX4_count 117 = .ok (.istore 4, 2) := by decide +kernel
theorem dX4_count_119 : decode cX4_count 119 = .ok (.iinc 5 1, 3) := by decide +kernel
theorem dX4_count_122 : decode cX4_count 122 = .ok (.goto (-42), 3) := by decide +kernel
theorem dX4_count_125 : decode cX4_count 125 = .ok (.iload_n 1, 1) := by decide +kernel
theorem dX4_count_126 : decode cX4_count 126 = .ok (.iconst 1, 1) := by decide +kernel
theorem dX4_count_127 : decode cX4_count 127 = .ok (.if_icmp .ne 8, 3) := by decide +kernel
theorem dX4_count_130 : decode cX4_count 130 = .ok (.iload 4, 2) := by decide +kernel
theorem dX4_count_132 : decode cX4_count 132 = .ok (.goto 33, 3) := by decide +kernel
theorem dX4_count_135 : decode cX4_count 135 = .ok (.iload_n 3, 1) := by decide +kernel
theorem dX4_count_136 : decode cX4_count 136 = .ok (.iconst 2, 1) := by decide +kernel
theorem dX4_count_137 : decode cX4_count 137 = .ok (.irem, 1) := by decide +kernel
theorem dX4_count_138 : decode cX4_count 138 = .ok (.ifCond .ne 26, 3) := by decide +kernel
theorem dX4_count_141 : decode cX4_count 141 = .ok (.iload_n 1, 1) := by decide +kernel
theorem dX4_count_142 : decode cX4_count 142 = .ok (.ifCond .eq 18, 3) := by decide +kernel
theorem dX4_count_145 : decode cX4_count 145 = .ok (.aload_n 0, 1) := by decide +kernel
theorem dX4_count_146 : decode cX4_count 146 = .ok (.iload_n 3, 1) := by decide +kernel
theorem dX4_count_147 : decode cX4_count 147 = .ok (.invokevirtual 128, 3) := by decide +kernel
theorem dX4_count_150 : decode cX4_count 150 = .ok (.aload_n 0, 1) := by decide +kernel
theorem dX4_count_151 : decode cX4_count 151 = .ok (.iload_n 3, 1) := by decide +kernel
theorem dX4_count_152 : decode cX4_count 152 = .ok (.iconst 1, 1) := by decide +kernel
theorem dX4_count_153 : decode cX4_count 153 = .ok (.iadd, 1) := by decide +kernel
theorem dX4_count_154 : decode cX4_count 154 = .ok (.invokevirtual 128, 3) := by decide +kernel
theorem dX4_count_157 : decode cX4_count 157 = .ok (.if_icmp .ne 7, 3) := by decide +kernel
theorem dX4_count_160 : decode cX4_count 160 = .ok (.iconst 1, 1) := by decide +kernel
theorem dX4_count_161 : decode cX4_count 161 = .ok (.goto 4, 3) := by decide +kernel
theorem dX4_count_164 : decode cX4_count 164 = .ok (.iconst 0, 1) := by decide +kernel
theorem dX4_count_165 : decode cX4_count 165 = .ok (.istore 5, 2) := by decide +kernel
theorem dX4_count_167 : decode cX4_count 167 = .ok (.iload 5, 2) := by decide +kernel
theorem dX4_count_169 : decode cX4_count 169 = .ok (.ifCond .eq 9, 3) := by decide +kernel
theorem dX4_count_172 : decode cX4_count 172 = .ok (.iload_n 2, 1) := by decide +kernel
theorem dX4_count_173 : decode cX4_count 173 = .ok (.iconst 1, 1) := by decide +kernel
theorem dX4_count_174 : decode cX4_count 174 = .ok (.iadd, 1) := by decide +kernel
theorem dX4_count_175 : decode cX4_count 175 = .ok (.goto 4, 3) := by decide +kernel
theorem dX4_count_178 : decode cX4_count 178 = .ok (.iload_n 2, 1) := by decide +kernel
theorem dX4_count_179 : decode cX4_count 179 = .ok (.istore_n 2, 1) := by decide +kernel
theorem dX4_count_180 : decode cX4_count 180 = .ok (.iinc 3 1, 3) := by decide +kernel
theorem dX4_count_183 : decode cX4_count 183 = .ok (.goto (-126), 3) := by decide +kernel
theorem dX4_count_186 : decode cX4_count 186 = .ok (.iload_n 1, 1) := by decide +kernel
theorem dX4_count_187 : decode cX4_count 187 = .ok (.ifCond .eq 13, 3) := by decide +kernel
theorem dX4_count_190 : decode cX4_count 190 = .ok (.iload_n 1, 1) := by decide +kernel
theorem dX4_count_191 : decode cX4_count 191 = .ok (.iconst 1, 1) := by decide +kernel
theorem dX4_count_192 : decode cX4_count 192 = .ok (.if_icmp .eq 8, 3) := by decide +kernel
theorem dX4_count_195 : decode cX4_count 195 = .ok (.iload_n 1, 1) := by decide +kernel
theorem dX4_count_196 : decode cX4_count 196 = .ok (.iconst 4, 1) := by decide +kernel
theorem dX4_count_197 : decode cX4_count 197 = .ok (.if_icmp .ne 7, 3) := by decide +kernel
theorem dX4_count_200 : decode cX4_count 200 = .ok (.iload_n 2, 1) := by decide +kernel
theorem dX4_count_201 : decode cX4_count 201 = .ok (.goto 4, 3) := by decide +kernel
theorem dX4_count_204 : decode cX4_count 204 = .ok (.iconst (-1), 1) := by decide +kernel
theorem dX4_count_205 : decode cX4_count 205 = .ok (.ireturn, 1) := by decide +kernel
set_option maxRecDepth 20000 in
theorem ggX4_begins_X4_isHalf : GoodIn wsX4_begins wsX4_isHalf := goodIn_r _ [7, 8, 14, 15, 16, 17, 18, 19, 20, 21, 22, 23, 24, 25, 26, 27, 28, 29] (by decide +kernel) (by decide +kernel)
set_option maxRecDepth 20000 in
theorem gX4_begins_X4_isHalf : GoodIn wsX4_begins (wsV RX4 131 RX4 yX4_isHalf wsX4_isHalf) := goodIn_app (goodIn_of _ (by decide +kernel)) ggX4_begins_X4_isHalf
set_option maxRecDepth 20000 in
theorem ggX4_begins_X4_refused : GoodIn wsX4_begins wsX4_refused := goodIn_r _ [12, 13, 14, 15, 16, 17, 18, 19, 20, 21, 22, 23, 24, 25, 26, 27, 28, 29] (by decide +kernel) (by decide +kernel)
set_option maxRecDepth 20000 in
theorem gX4_begins_X4_refused : GoodIn wsX4_begins (wsV RX4 69 RX4 yX4_refused wsX4_refused) := goodIn_app (goodIn_of _ (by decide +kernel)) ggX4_begins_X4_refused
theorem dX4_begins_0 : decode cX4_begins 0 = .ok (.aload_n 0, 1) := by decide +kernel
theorem dX4_begins_1 : decode cX4_begins 1 = .ok (.aload_n 0, 1) := by decide +kernel
theorem dX4_begins_2 : decode cX4_begins 2 = .ok (.iload_n 1, 1) := by decide +kernel
theorem dX4_begins_3 : decode cX4_begins 3 = .ok (.invokevirtual 131, 3) := by decide +kernel
theorem dX4_begins_6 : decode cX4_begins 6 = .ok (.ifCond .eq 7, 3) := by decide +kernel
theorem dX4_begins_9 : decode cX4_begins 9 = .ok (.iconst 0, 1) := by decide +kernel
theorem dX4_begins_10 : decode cX4_begins 10 = .ok (.goto 4, 3) := by decide +kernel
theorem dX4_begins_13 : decode cX4_begins 13 = .ok (.iconst 1, 1) := by decide +kernel
theorem dX4_begins_14 : decode cX4_begins 14 = .ok (.invokevirtual 69, 3) := by decide +kernel
theorem dX4_begins_17 : decode cX4_begins 17 = .ok (.ifCond .eq 7, 3) := by decide +kernel
theorem dX4_begins_20 : decode cX4_begins 20 = .ok (.iconst 0, 1) := by decide +kernel
theorem dX4_begins_21 : decode cX4_begins 21 = .ok (.goto 22, 3) := by decide +kernel
theorem dX4_begins_24 : decode cX4_begins 24 = .ok (.iload_n 2, 1) := by decide +kernel
theorem dX4_begins_25 : decode cX4_begins 25 = .ok (.ifCond .eq 12, 3) := by decide +kernel
theorem dX4_begins_28 : decode cX4_begins 28 = .ok (.aload_n 0, 1) := by decide +kernel
theorem dX4_begins_29 : decode cX4_begins 29 = .ok (.getfield 17, 3) := by decide +kernel
theorem dX4_begins_32 : decode cX4_begins 32 = .ok (.iload_n 1, 1) := by decide +kernel
theorem dX4_begins_33 : decode cX4_begins 33 = .ok (.iaload, 1) := by decide +kernel
theorem dX4_begins_34 : decode cX4_begins 34 = .ok (.goto 9, 3) := by decide +kernel
theorem dX4_begins_37 : decode cX4_begins 37 = .ok (.aload_n 0, 1) := by decide +kernel
theorem dX4_begins_38 : decode cX4_begins 38 = .ok (.getfield 13, 3) := by decide +kernel
theorem dX4_begins_41 : decode cX4_begins 41 = .ok (.iload_n 1, 1) := by decide +kernel
theorem dX4_begins_42 : decode cX4_begins 42 = .ok (.iaload, 1) := by decide +kernel
theorem dX4_begins_43 : decode cX4_begins 43 = .ok (.ireturn, 1) := by decide +kernel
set_option maxRecDepth 20000 in
theorem ggX4_next_X4_isHalf : GoodIn wsX4_next wsX4_isHalf := goodIn_r _ [6, 7, 74, 75, 76, 77, 78, 79, 80, 81, 82, 83, 84, 85, 86, 87, 88, 89] (by decide +kernel) (by decide +kernel)
set_option maxRecDepth 20000 in
theorem gX4_next_X4_isHalf : GoodIn wsX4_next (wsV RX4 131 RX4 yX4_isHalf wsX4_isHalf) := goodIn_app (goodIn_of _ (by decide +kernel)) ggX4_next_X4_isHalf
set_option maxRecDepth 20000 in
theorem ggX4_next_X4_refused : GoodIn wsX4_next wsX4_refused := goodIn_r _ [11, 12, 74, 75, 76, 77, 78, 79, 80, 81, 82, 83, 84, 85, 86, 87, 88, 89] (by decide +kernel) (by decide +kernel)
set_option maxRecDepth 20000 in
theorem gX4_next_X4_refused : GoodIn wsX4_next (wsV RX4 69 RX4 yX4_refused wsX4_refused) := goodIn_app (goodIn_of _ (by decide +kernel)) ggX4_next_X4_refused
set_option maxRecDepth 20000 in
theorem ggX4_next_X4_make : GoodIn wsX4_next wsX4_make := goodIn_r _ [16, 17, 18, 19, 20, 21, 7, 1, 22, 23, 24, 5, 25, 26, 27, 28, 29, 30, 31, 32, 33, 34, 35, 36, 37, 38, 39, 40, 41, 42, 43, 44, 45, 46, 47, 48, 49, 50, 51, 52, 53, 54, 55, 56, 57, 58, 59, 60, 61, 62, 63, 64, 65, 66, 67, 68, 69, 70, 71, 72, 73, 74, 75, 76, 77, 78, 79, 80, 81, 82, 83, 84, 85, 86, 87, 88, 89] (by decide +kernel) (by decide +kernel)
set_option maxRecDepth 20000 in
theorem gX4_next_X4_make : GoodIn wsX4_next (wsV RX4 125 RX4 yX4_make wsX4_make) := goodIn_app (goodIn_of _ (by decide +kernel)) ggX4_next_X4_make
theorem dX4_next_0 : decode cX4_next 0 = .ok (.aload_n 0, 1) := by decide +kernel
theorem dX4_next_1 : decode cX4_next 1 = .ok (.aload_n 0, 1) := by decide +kernel
theorem dX4_next_2 : decode cX4_next 2 = .ok (.iload_n 1, 1) := by decide +kernel
theorem dX4_next_3 : decode cX4_next 3 = .ok (.invokevirtual 131, 3) := by decide +kernel
theorem dX4_next_6 : decode cX4_next 6 = .ok (.ifCond .eq 7, 3) := by decide +kernel
theorem dX4_next_9 : decode cX4_next 9 = .ok (.iconst 0, 1) := by decide +kernel
theorem dX4_next_10 : decode cX4_next 10 = .ok (.goto 4, 3) := by decide +kernel
theorem dX4_next_13 : decode cX4_next 13 = .ok (.iconst 1, 1) := by decide +kernel
theorem dX4_next_14 : decode cX4_next 14 = .ok (.invokevirtual 69, 3) := by decide +kernel
theorem dX4_next_17 : decode cX4_next 17 = .ok (.ifCond .eq 5, 3) := by decide +kernel
theorem dX4_next_20 : decode cX4_next 20 = .ok (.iconst 0, 1) := by decide +kernel
theorem dX4_next_21 : decode cX4_next 21 = .ok (.ireturn, 1) := by decide +kernel
theorem dX4_next_22 : decode cX4_next 22 = .ok (.aload_n 0, 1) := by decide +kernel
theorem dX4_next_23 : decode cX4_next 23 = .ok (.invokevirtual 125, 3) := by decide +kernel
theorem dX4_next_26 : decode cX4_next 26 = .ok (.aload_n 0, 1) := by decide +kernel
theorem dX4_next_27 : decode cX4_next 27 = .ok (.getfield 20, 3) := by decide +kernel
theorem dX4_next_30 : decode cX4_next 30 = .ok (.iload_n 1, 1) := by decide +kernel
theorem dX4_next_31 : decode cX4_next 31 = .ok (.iaload, 1) := by decide +kernel
theorem dX4_next_32 : decode cX4_next 32 = .ok (.ireturn, 1) := by decide +kernel
set_option maxRecDepth 20000 in
theorem ggX4_face_X4_isHalf : GoodIn wsX4_face wsX4_isHalf := goodIn_r _ [5, 6, 78, 79, 80, 81, 82, 83, 84, 85, 86, 87, 88, 89, 90, 91, 92, 93] (by decide +kernel) (by decide +kernel)
set_option maxRecDepth 20000 in
theorem gX4_face_X4_isHalf : GoodIn wsX4_face (wsV RX4 131 RX4 yX4_isHalf wsX4_isHalf) := goodIn_app (goodIn_of _ (by decide +kernel)) ggX4_face_X4_isHalf
set_option maxRecDepth 20000 in
theorem ggX4_face_X4_refused : GoodIn wsX4_face wsX4_refused := goodIn_r _ [10, 11, 78, 79, 80, 81, 82, 83, 84, 85, 86, 87, 88, 89, 90, 91, 92, 93] (by decide +kernel) (by decide +kernel)
set_option maxRecDepth 20000 in
theorem gX4_face_X4_refused : GoodIn wsX4_face (wsV RX4 69 RX4 yX4_refused wsX4_refused) := goodIn_app (goodIn_of _ (by decide +kernel)) ggX4_face_X4_refused
set_option maxRecDepth 20000 in
theorem ggX4_face_X4_make : GoodIn wsX4_face wsX4_make := goodIn_r _ [15, 16, 17, 18, 19, 20, 6, 21, 22, 23, 24, 4, 25, 26, 27, 28, 29, 30, 31, 32, 33, 34, 35, 36, 37, 38, 39, 40, 41, 42, 43, 44, 45, 46, 47, 48, 49, 50, 51, 52, 53, 54, 55, 56, 57, 58, 59, 60, 61, 62, 63, 64, 65, 66, 67, 68, 69, 70, 71, 72, 73, 78, 79, 80, 81, 82, 83, 84, 85, 86, 87, 88, 89, 90, 91, 92, 93] (by decide +kernel) (by decide +kernel)
set_option maxRecDepth 20000 in
theorem gX4_face_X4_make : GoodIn wsX4_face (wsV RX4 125 RX4 yX4_make wsX4_make) := goodIn_app (goodIn_of _ (by decide +kernel)) ggX4_face_X4_make
set_option maxRecDepth 20000 in
theorem ggX4_face_X4_left : GoodIn wsX4_face wsX4_left := goodIn_r _ [77, 59, 20, 78, 79, 80, 81, 82, 83, 84, 85, 86, 87, 88, 89, 90, 91, 92, 93] (by decide +kernel) (by decide +kernel)
set_option maxRecDepth 20000 in
theorem gX4_face_X4_left : GoodIn wsX4_face (wsV RX4 128 RX4 yX4_left wsX4_left) := goodIn_app (goodIn_of _ (by decide +kernel)) ggX4_face_X4_left
theorem dX4_face_0 : decode cX4_face 0 = .ok (.aload_n 0, 1) := by decide +kernel
theorem dX4_face_1 : decode cX4_face 1 = .ok (.aload_n 0, 1) := by decide +kernel
theorem dX4_face_2 : decode cX4_face 2 = .ok (.iload_n 1, 1) := by decide +kernel
theorem dX4_face_3 : decode cX4_face 3 = .ok (.invokevirtual 131, 3) := by decide +kernel
theorem dX4_face_6 : decode cX4_face 6 = .ok (.ifCond .eq 7, 3) := by decide +kernel
theorem dX4_face_9 : decode cX4_face 9 = .ok (.iconst 0, 1) := by decide +kernel
theorem dX4_face_10 : decode cX4_face 10 = .ok (.goto 4, 3) := by decide +kernel
theorem dX4_face_13 : decode cX4_face 13 = .ok (.iconst 1, 1) := by decide +kernel
theorem dX4_face_14 : decode cX4_face 14 = .ok (.invokevirtual 69, 3) := by decide +kernel
theorem dX4_face_17 : decode cX4_face 17 = .ok (.ifCond .eq 5, 3) := by decide +kernel
theorem dX4_face_20 : decode cX4_face 20 = .ok (.iconst 0, 1) := by decide +kernel
theorem dX4_face_21 : decode cX4_face 21 = .ok (.ireturn, 1) := by decide +kernel
theorem dX4_face_22 : decode cX4_face 22 = .ok (.aload_n 0, 1) := by decide +kernel
theorem dX4_face_23 : decode cX4_face 23 = .ok (.invokevirtual 125, 3) := by decide +kernel
theorem dX4_face_26 : decode cX4_face 26 = .ok (.aload_n 0, 1) := by decide +kernel
theorem dX4_face_27 : decode cX4_face 27 = .ok (.iload_n 1, 1) := by decide +kernel
theorem dX4_face_28 : decode cX4_face 28 = .ok (.invokevirtual 128, 3) := by decide +kernel
theorem dX4_face_31 : decode cX4_face 31 = .ok (.ireturn, 1) := by decide +kernel
set_option maxRecDepth 20000 in
theorem ggX4_piece_X4_isHalf : GoodIn wsX4_piece wsX4_isHalf := goodIn_r _ [6, 7, 74, 75, 76, 77, 78, 79, 80, 81, 82, 83, 84, 85, 86, 87, 88, 89] (by decide +kernel) (by decide +kernel)
set_option maxRecDepth 20000 in
theorem gX4_piece_X4_isHalf : GoodIn wsX4_piece (wsV RX4 131 RX4 yX4_isHalf wsX4_isHalf) := goodIn_app (goodIn_of _ (by decide +kernel)) ggX4_piece_X4_isHalf
set_option maxRecDepth 20000 in
theorem ggX4_piece_X4_refused : GoodIn wsX4_piece wsX4_refused := goodIn_r _ [11, 12, 74, 75, 76, 77, 78, 79, 80, 81, 82, 83, 84, 85, 86, 87, 88, 89] (by decide +kernel) (by decide +kernel)
set_option maxRecDepth 20000 in
theorem gX4_piece_X4_refused : GoodIn wsX4_piece (wsV RX4 69 RX4 yX4_refused wsX4_refused) := goodIn_app (goodIn_of _ (by decide +kernel)) ggX4_piece_X4_refused
set_option maxRecDepth 20000 in
theorem ggX4_piece_X4_make : GoodIn wsX4_piece wsX4_make := goodIn_r _ [16, 17, 18, 19, 1, 20, 7, 21, 22, 23, 24, 5, 25, 26, 27, 28, 29, 30, 31, 32, 33, 34, 35, 36, 37, 38, 39, 40, 41, 42, 43, 44, 45, 46, 47, 48, 49, 50, 51, 52, 53, 54, 55, 56, 57, 58, 59, 60, 61, 62, 63, 64, 65, 66, 67, 68, 69, 70, 71, 72, 73, 74, 75, 76, 77, 78, 79, 80, 81, 82, 83, 84, 85, 86, 87, 88, 89] (by decide +kernel) (by decide +kernel)
set_option maxRecDepth 20000 in
theorem gX4_piece_X4_make : GoodIn wsX4_piece (wsV RX4 125 RX4 yX4_make wsX4_make) := goodIn_app (goodIn_of _ (by decide +kernel)) ggX4_piece_X4_make
theorem dX4_piece_0 : decode cX4_piece 0 = .ok (.aload_n 0, 1) := by decide +kernel
theorem dX4_piece_1 : decode cX4_piece 1 = .ok (.aload_n 0, 1) := by decide +kernel
theorem dX4_piece_2 : decode cX4_piece 2 = .ok (.iload_n 1, 1) := by decide +kernel
theorem dX4_piece_3 : decode cX4_piece 3 = .ok (.invokevirtual 131, 3) := by decide +kernel
theorem dX4_piece_6 : decode cX4_piece 6 = .ok (.ifCond .eq 7, 3) := by decide +kernel
theorem dX4_piece_9 : decode cX4_piece 9 = .ok (.iconst 0, 1) := by decide +kernel
theorem dX4_piece_10 : decode cX4_piece 10 = .ok (.goto 4, 3) := by decide +kernel
theorem dX4_piece_13 : decode cX4_piece 13 = .ok (.iconst 1, 1) := by decide +kernel
theorem dX4_piece_14 : decode cX4_piece 14 = .ok (.invokevirtual 69, 3) := by decide +kernel
theorem dX4_piece_17 : decode cX4_piece 17 = .ok (.ifCond .eq 5, 3) := by decide +kernel
theorem dX4_piece_20 : decode cX4_piece 20 = .ok (.iconst 0, 1) := by decide +kernel
theorem dX4_piece_21 : decode cX4_piece 21 = .ok (.ireturn, 1) := by decide +kernel
theorem dX4_piece_22 : decode cX4_piece 22 = .ok (.aload_n 0, 1) := by decide +kernel
theorem dX4_piece_23 : decode cX4_piece 23 = .ok (.invokevirtual 125, 3) := by decide +kernel
theorem dX4_piece_26 : decode cX4_piece 26 = .ok (.aload_n 0, 1) := by decide +kernel
theorem dX4_piece_27 : decode cX4_piece 27 = .ok (.getfield 23, 3) := by decide +kernel
theorem dX4_piece_30 : decode cX4_piece 30 = .ok (.iload_n 1, 1) := by decide +kernel
theorem dX4_piece_31 : decode cX4_piece 31 = .ok (.iaload, 1) := by decide +kernel
theorem dX4_piece_32 : decode cX4_piece 32 = .ok (.ireturn, 1) := by decide +kernel
theorem dX4_outer_0 : decode cX4_outer 0 = .ok (.iconst (-1), 1) := by decide +kernel
theorem dX4_outer_1 : decode cX4_outer 1 = .ok (.istore_n 2, 1) := by decide +kernel
theorem dX4_outer_2 : decode cX4_outer 2 = .ok (.iconst 0, 1) := by decide +kernel
theorem dX4_outer_3 : decode cX4_outer 3 = .ok (.istore_n 3, 1) := by decide +kernel
theorem dX4_outer_4 : decode cX4_outer 4 = .ok (.iload_n 3, 1) := by decide +kernel
theorem dX4_outer_5 : decode cX4_outer 5 = .ok (.aload_n 0, 1) := by decide +kernel
theorem dX4_outer_6 : decode cX4_outer 6 = .ok (.getfield 95, 3) := by decide +kernel
theorem dX4_outer_9 : decode cX4_outer 9 = .ok (.if_icmp .ge 41, 3) := by decide +kernel
theorem dX4_outer_12 : decode cX4_outer 12 = .ok (.aload_n 0, 1) := by decide +kernel
theorem dX4_outer_13 : decode cX4_outer 13 = .ok (.getfield 23, 3) := by decide +kernel
theorem dX4_outer_16 : decode cX4_outer 16 = .ok (.aload_n 0, 1) := by decide +kernel
theorem dX4_outer_17 : decode cX4_outer 17 = .ok (.getfield 29, 3) := by decide +kernel
theorem dX4_outer_20 : decode cX4_outer 20 = .ok (.iload_n 3, 1) := by decide +kernel
theorem dX4_outer_21 : decode cX4_outer 21 = .ok (.iaload, 1) := by decide +kernel
theorem dX4_outer_22 : decode cX4_outer 22 = .ok (.iaload, 1) := by decide +kernel
theorem dX4_outer_23 : decode cX4_outer 23 = .ok (.iload_n 1, 1) := by decide +kernel
theorem dX4_outer_24 : decode cX4_outer 24 = .ok (.if_icmp .ne 18, 3) := by decide +kernel
theorem dX4_outer_27 : decode cX4_outer 27 = .ok (.aload_n 0, 1) := by decide +kernel
theorem dX4_outer_28 : decode cX4_outer 28 = .ok (.getfield 32, 3) := by decide +kernel
theorem dX4_outer_31 : decode cX4_outer 31 = .ok (.iload_n 3, 1) := by decide +kernel
theorem dX4_outer_32 : decode cX4_outer 32 = .ok (.laload, 1) := by decide +kernel
theorem dX4_outer_33 : decode cX4_outer 33 = .ok (.lconst 0, 1) := by decide +kernel
theorem dX4_outer_34 : decode cX4_outer 34 = .ok (.lcmp, 1) := by decide +kernel
theorem dX4_outer_35 : decode cX4_outer 35 = .ok (.ifCond .gt 7, 3) := by decide +kernel
theorem dX4_outer_38 : decode cX4_outer 38 = .ok (.iload_n 3, 1) := by decide +kernel
theorem dX4_outer_39 : decode cX4_outer 39 = .ok (.goto 4, 3) := by decide +kernel
theorem dX4_outer_42 : decode cX4_outer 42 = .ok (.iload_n 2, 1) := by decide +kernel
theorem dX4_outer_43 : decode cX4_outer 43 = .ok (.istore_n 2, 1) := by decide +kernel
theorem dX4_outer_44 : decode cX4_outer 44 = .ok (.iinc 3 1, 3) := by decide +kernel
theorem dX4_outer_47 : decode cX4_outer 47 = .ok (.goto (-43), 3) := by decide +kernel
theorem dX4_outer_50 : decode cX4_outer 50 = .ok (.iload_n 2, 1) := by decide +kernel
theorem dX4_outer_51 : decode cX4_outer 51 = .ok (.ireturn, 1) := by decide +kernel
set_option maxRecDepth 20000 in
theorem ggX4_around_X4_make : GoodIn wsX4_around wsX4_make := goodIn_r _ [7, 8, 1, 9, 10, 11, 12, 13, 14, 15, 16, 6, 17, 18, 19, 20, 21, 22, 23, 24, 25, 26, 27, 28, 29, 30, 31, 32, 33, 34, 35, 36, 37, 38, 39, 40, 41, 42, 43, 44, 45, 46, 47, 48, 49, 50, 2, 51, 52, 53, 54, 55, 56, 57, 58, 59, 60, 61, 62, 63, 64, 74, 75, 76, 77, 78, 79, 80, 81, 82, 83, 84, 85, 86, 87, 88, 89] (by decide +kernel) (by decide +kernel)
set_option maxRecDepth 20000 in
theorem gX4_around_X4_make : GoodIn wsX4_around (wsV RX4 125 RX4 yX4_make wsX4_make) := goodIn_app (goodIn_of _ (by decide +kernel)) ggX4_around_X4_make
set_option maxRecDepth 20000 in
theorem ggX4_around_X4_refused : GoodIn wsX4_around wsX4_refused := goodIn_r _ [68, 69, 74, 75, 76, 77, 78, 79, 80, 81, 82, 83, 84, 85, 86, 87, 88, 89] (by decide +kernel) (by decide +kernel)
set_option maxRecDepth 20000 in
theorem gX4_around_X4_refused : GoodIn wsX4_around (wsV RX4 69 RX4 yX4_refused wsX4_refused) := goodIn_app (goodIn_of _ (by decide +kernel)) ggX4_around_X4_refused
set_option maxRecDepth 20000 in
theorem ggX4_around_X4_outer : GoodIn wsX4_around wsX4_outer := goodIn_r _ [73, 9, 10, 43, 44, 74, 75, 76, 77, 78, 79, 80, 81, 82, 83, 84, 85, 86, 87, 88, 89] (by decide +kernel) (by decide +kernel)
set_option maxRecDepth 20000 in
theorem gX4_around_X4_outer : GoodIn wsX4_around (wsV RX4 134 RX4 yX4_outer wsX4_outer) := goodIn_app (goodIn_of _ (by decide +kernel)) ggX4_around_X4_outer
theorem dX4_around_0 : decode cX4_around 0 = .ok (.aload_n 0, 1) := by decide +kernel
theorem dX4_around_1 : decode cX4_around 1 = .ok (.invokevirtual 125, 3) := by decide +kernel
theorem dX4_around_4 : decode cX4_around 4 = .ok (.aload_n 0, 1) := by decide +kernel
theorem dX4_around_5 : decode cX4_around 5 = .ok (.iload_n 1, 1) := by decide +kernel
theorem dX4_around_6 : decode cX4_around 6 = .ok (.ifCond .lt 15, 3) := by decide +kernel
theorem dX4_around_9 : decode cX4_around 9 = .ok (.iload_n 1, 1) := by decide +kernel
theorem dX4_around_10 : decode cX4_around 10 = .ok (.aload_n 0, 1) := by decide +kernel
theorem dX4_around_11 : decode cX4_around 11 = .ok (.getfield 101, 3) := by decide +kernel
theorem dX4_around_14 : decode cX4_around 14 = .ok (.if_icmp .ge 7, 3) := by decide +kernel
theorem dX4_around_17 : decode cX4_around 17 = .ok (.iconst 0, 1) := by decide +kernel
theorem dX4_around_18 : decode cX4_around 18 = .ok (.goto 4, 3) := by decide +kernel
theorem dX4_around_21 : decode cX4_around 21 = .ok (.iconst 1, 1) := by decide +kernel
theorem dX4_around_22 : decode cX4_around 22 = .ok (.invokevirtual 69, 3) := by decide +kernel
theorem dX4_around_25 : decode cX4_around 25 = .ok (.ifCond .eq 7, 3) := by decide +kernel
theorem dX4_around_28 : decode cX4_around 28 = .ok (.iconst 0, 1) := by decide +kernel
theorem dX4_around_29 : decode cX4_around 29 = .ok (.goto 13, 3) := by decide +kernel
theorem dX4_around_32 : decode cX4_around 32 = .ok (.aload_n 0, 1) := by decide +kernel
theorem dX4_around_33 : decode cX4_around 33 = .ok (.getfield 36, 3) := by decide +kernel
theorem dX4_around_36 : decode cX4_around 36 = .ok (.aload_n 0, 1) := by decide +kernel
theorem dX4_around_37 : decode cX4_around 37 = .ok (.iload_n 1, 1) := by decide +kernel
theorem dX4_around_38 : decode cX4_around 38 = .ok (.invokevirtual 134, 3) := by decide +kernel
theorem dX4_around_41 : decode cX4_around 41 = .ok (.iaload, 1) := by decide +kernel
theorem dX4_around_42 : decode cX4_around 42 = .ok (.ireturn, 1) := by decide +kernel
set_option maxRecDepth 20000 in
theorem ggX4_isFace_X4_make : GoodIn wsX4_isFace wsX4_make := goodIn_r _ [6, 7, 8, 9, 10, 11, 12, 13, 14, 15, 16, 5, 17, 18, 19, 20, 21, 22, 23, 24, 25, 26, 27, 28, 29, 30, 31, 32, 33, 34, 35, 36, 37, 38, 39, 40, 41, 42, 43, 44, 45, 46, 47, 48, 1, 49, 50, 51, 52, 53, 54, 55, 56, 57, 58, 59, 60, 61, 62, 63, 64, 65, 66, 67, 68, 69, 70, 71, 72, 73, 74, 75, 76, 77, 78, 79, 80] (by decide +kernel) (by decide +kernel)
set_option maxRecDepth 20000 in
theorem gX4_isFace_X4_make : GoodIn wsX4_isFace (wsV RX4 125 RX4 yX4_make wsX4_make) := goodIn_app (goodIn_of _ (by decide +kernel)) ggX4_isFace_X4_make
theorem dX4_isFace_0 : decode cX4_isFace 0 = .ok (.aload_n 0, 1) := by decide +kernel
theorem dX4_isFace_1 : decode cX4_isFace 1 = .ok (.invokevirtual 125, 3) := by decide +kernel
theorem dX4_isFace_4 : decode cX4_isFace 4 = .ok (.iload_n 1, 1) := by decide +kernel
theorem dX4_isFace_5 : decode cX4_isFace 5 = .ok (.ifCond .lt 15, 3) := by decide +kernel
theorem dX4_isFace_8 : decode cX4_isFace 8 = .ok (.iload_n 1, 1) := by decide +kernel
theorem dX4_isFace_9 : decode cX4_isFace 9 = .ok (.aload_n 0, 1) := by decide +kernel
theorem dX4_isFace_10 : decode cX4_isFace 10 = .ok (.getfield 118, 3) := by decide +kernel
theorem dX4_isFace_13 : decode cX4_isFace 13 = .ok (.if_icmp .ge 7, 3) := by decide +kernel
theorem dX4_isFace_16 : decode cX4_isFace 16 = .ok (.iconst 1, 1) := by decide +kernel
theorem dX4_isFace_17 : decode cX4_isFace 17 = .ok (.goto 4, 3) := by decide +kernel
theorem dX4_isFace_20 : decode cX4_isFace 20 = .ok (.iconst 0, 1) := by decide +kernel
theorem dX4_isFace_21 : decode cX4_isFace 21 = .ok (.ireturn, 1) := by decide +kernel
set_option maxRecDepth 20000 in
theorem ggX4_area_X4_isFace : GoodIn wsX4_area wsX4_isFace := goodIn_r _ [8, 9, 10, 11, 12, 7, 13, 14, 15, 1, 16, 17, 18, 19, 20, 21, 22, 23, 24, 25, 26, 27, 28, 29, 30, 31, 32, 33, 34, 35, 36, 37, 38, 39, 40, 41, 42, 43, 44, 45, 46, 47, 48, 49, 3, 50, 51, 52, 53, 54, 2, 55, 56, 57, 58, 59, 60, 61, 62, 63, 64, 65, 66, 67, 68, 74, 75, 76, 77, 78, 79, 80, 81, 82, 83, 84, 85, 86, 87, 88, 89] (by decide +kernel) (by decide +kernel)
set_option maxRecDepth 20000 in
theorem gX4_area_X4_isFace : GoodIn wsX4_area (wsV RX4 137 RX4 yX4_isFace wsX4_isFace) := goodIn_app (goodIn_of _ (by decide +kernel)) ggX4_area_X4_isFace
set_option maxRecDepth 20000 in
theorem ggX4_area_X4_refused : GoodIn wsX4_area wsX4_refused := goodIn_r _ [72, 73, 74, 75, 76, 77, 78, 79, 80, 81, 82, 83, 84, 85, 86, 87, 88, 89] (by decide +kernel) (by decide +kernel)
set_option maxRecDepth 20000 in
theorem gX4_area_X4_refused : GoodIn wsX4_area (wsV RX4 69 RX4 yX4_refused wsX4_refused) := goodIn_app (goodIn_of _ (by decide +kernel)) ggX4_area_X4_refused
theorem dX4_area_0 : decode cX4_area 0 = .ok (.aload_n 0, 1) := by decide +kernel
theorem dX4_area_1 : decode cX4_area 1 = .ok (.aload_n 0, 1) := by decide +kernel
theorem dX4_area_2 : decode cX4_area 2 = .ok (.iload_n 1, 1) := by decide +kernel
theorem dX4_area_3 : decode cX4_area 3 = .ok (.invokevirtual 137, 3) := by decide +kernel
theorem dX4_area_6 : decode cX4_area 6 = .ok (.ifCond .eq 7, 3) := by decide +kernel
theorem dX4_area_9 : decode cX4_area 9 = .ok (.iconst 0, 1) := by decide +kernel
theorem dX4_area_10 : decode cX4_area 10 = .ok (.goto 4, 3) := by decide +kernel
theorem dX4_area_13 : decode cX4_area 13 = .ok (.iconst 1, 1) := by decide +kernel
theorem dX4_area_14 : decode cX4_area 14 = .ok (.invokevirtual 69, 3) := by decide +kernel
theorem dX4_area_17 : decode cX4_area 17 = .ok (.ifCond .eq 5, 3) := by decide +kernel
theorem dX4_area_20 : decode cX4_area 20 = .ok (.iconst 0, 1) := by decide +kernel
theorem dX4_area_21 : decode cX4_area 21 = .ok (.ireturn, 1) := by decide +kernel
theorem dX4_area_22 : decode cX4_area 22 = .ok (.lconst 0, 1) := by decide +kernel
theorem dX4_area_23 : decode cX4_area 23 = .ok (.lstore_n 2, 1) := by decide +kernel
theorem dX4_area_24 : decode cX4_area 24 = .ok (.iconst 0, 1) := by decide +kernel
theorem dX4_area_25 : decode cX4_area 25 = .ok (.istore 4, 2) := by decide +kernel
theorem dX4_area_27 : decode cX4_area 27 = .ok (.iload 4, 2) := by decide +kernel
theorem dX4_area_29 : decode cX4_area 29 = .ok (.aload_n 0, 1) := by decide +kernel
theorem dX4_area_30 : decode cX4_area 30 = .ok (.getfield 95, 3) := by decide +kernel
theorem dX4_area_33 : decode cX4_area 33 = .ok (.if_icmp .ge 38, 3) := by decide +kernel
theorem dX4_area_36 : decode cX4_area 36 = .ok (.iload_n 1, 1) := by decide +kernel
theorem dX4_area_37 : decode cX4_area 37 = .ok (.ifCond .le 34, 3) := by decide +kernel
theorem dX4_area_40 : decode cX4_area 40 = .ok (.aload_n 0, 1) := by decide +kernel
theorem dX4_area_41 : decode cX4_area 41 = .ok (.getfield 36, 3) := by decide +kernel
theorem dX4_area_44 : decode cX4_area 44 = .ok (.iload 4, 2) := by decide +kernel
theorem dX4_area_46 : decode cX4_area 46 = .ok (.iaload, 1) := by decide +kernel
theorem dX4_area_47 : decode cX4_area 47 = .ok (.iload_n 1, 1) := by decide +kernel
theorem dX4_area_48 : decode cX4_area 48 = .ok (.if_icmp .ne 15, 3) := by decide +kernel
theorem dX4_area_51 : decode cX4_area 51 = .ok (.lload_n 2, 1) := by decide +kernel
theorem dX4_area_52 : decode cX4_area 52 = .ok (.aload_n 0, 1) := by decide +kernel
theorem dX4_area_53 : decode cX4_area 53 = .ok (.getfield 32, 3) := by decide +kernel
theorem dX4_area_56 : decode cX4_area 56 = .ok (.iload 4, 2) := by decide +kernel
theorem dX4_area_58 : decode cX4_area 58 = .ok (.laload, 1) := by decide +kernel
theorem dX4_area_59 : decode cX4_area 59 = .ok (.ladd, 1) := by decide +kernel
theorem dX4_area_60 : decode cX4_area 60 = .ok (.goto 4, 3) := by decide +kernel
theorem dX4_area_63 : decode cX4_area 63 = .ok (.lload_n 2, 1) := by decide +kernel
theorem dX4_area_64 : decode cX4_area 64 = .ok (.lstore_n 2, 1) := by decide +kernel
theorem dX4_area_65 : decode cX4_area 65 = .ok (.iinc 4 1, 3) := by decide +kernel
theorem dX4_area_68 : decode cX4_area 68 = .ok (.goto (-41), 3) := by decide +kernel
theorem dX4_area_71 : decode cX4_area 71 = .ok (.lload_n 2, 1) := by decide +kernel
theorem dX4_area_72 : decode cX4_area 72 = .ok (.l2i, 1) := by decide +kernel
theorem dX4_area_73 : decode cX4_area 73 = .ok (.ireturn, 1) := by decide +kernel
set_option maxRecDepth 20000 in
theorem ggX4_border_X4_isFace : GoodIn wsX4_border wsX4_isFace := goodIn_r _ [9, 10, 11, 12, 13, 8, 14, 15, 16, 1, 17, 18, 4, 19, 20, 21, 22, 23, 24, 25, 26, 27, 28, 29, 30, 31, 32, 33, 34, 35, 36, 37, 38, 39, 40, 41, 42, 43, 44, 45, 46, 47, 48, 49, 3, 50, 51, 52, 53, 54, 2, 55, 56, 57, 58, 59, 60, 61, 62, 63, 64, 65, 66, 67, 68, 78, 79, 80, 81, 82, 83, 84, 85, 86, 87, 88, 89, 90, 91, 92, 93] (by decide +kernel) (by decide +kernel)
set_option maxRecDepth 20000 in
theorem gX4_border_X4_isFace : GoodIn wsX4_border (wsV RX4 137 RX4 yX4_isFace wsX4_isFace) := goodIn_app (goodIn_of _ (by decide +kernel)) ggX4_border_X4_isFace
set_option maxRecDepth 20000 in
theorem ggX4_border_X4_refused : GoodIn wsX4_border wsX4_refused := goodIn_r _ [72, 73, 78, 79, 80, 81, 82, 83, 84, 85, 86, 87, 88, 89, 90, 91, 92, 93] (by decide +kernel) (by decide +kernel)
set_option maxRecDepth 20000 in
theorem gX4_border_X4_refused : GoodIn wsX4_border (wsV RX4 69 RX4 yX4_refused wsX4_refused) := goodIn_app (goodIn_of _ (by decide +kernel)) ggX4_border_X4_refused
set_option maxRecDepth 20000 in
theorem ggX4_border_X4_left : GoodIn wsX4_border wsX4_left := goodIn_r _ [77, 2, 18, 78, 79, 80, 81, 82, 83, 84, 85, 86, 87, 88, 89, 90, 91, 92, 93] (by decide +kernel) (by decide +kernel)
set_option maxRecDepth 20000 in
theorem gX4_border_X4_left : GoodIn wsX4_border (wsV RX4 128 RX4 yX4_left wsX4_left) := goodIn_app (goodIn_of _ (by decide +kernel)) ggX4_border_X4_left
theorem dX4_border_0 : decode cX4_border 0 = .ok (.aload_n 0, 1) := by decide +kernel
theorem dX4_border_1 : decode cX4_border 1 = .ok (.aload_n 0, 1) := by decide +kernel
theorem dX4_border_2 : decode cX4_border 2 = .ok (.iload_n 1, 1) := by decide +kernel
theorem dX4_border_3 : decode cX4_border 3 = .ok (.invokevirtual 137, 3) := by decide +kernel
theorem dX4_border_6 : decode cX4_border 6 = .ok (.ifCond .eq 7, 3) := by decide +kernel
theorem dX4_border_9 : decode cX4_border 9 = .ok (.iconst 0, 1) := by decide +kernel
theorem dX4_border_10 : decode cX4_border 10 = .ok (.goto 4, 3) := by decide +kernel
theorem dX4_border_13 : decode cX4_border 13 = .ok (.iconst 1, 1) := by decide +kernel
theorem dX4_border_14 : decode cX4_border 14 = .ok (.invokevirtual 69, 3) := by decide +kernel
theorem dX4_border_17 : decode cX4_border 17 = .ok (.ifCond .eq 5, 3) := by decide +kernel
theorem dX4_border_20 : decode cX4_border 20 = .ok (.iconst 0, 1) := by decide +kernel
theorem dX4_border_21 : decode cX4_border 21 = .ok (.ireturn, 1) := by decide +kernel
theorem dX4_border_22 : decode cX4_border 22 = .ok (.iconst 0, 1) := by decide +kernel
theorem dX4_border_23 : decode cX4_border 23 = .ok (.istore_n 3, 1) := by decide +kernel
theorem dX4_border_24 : decode cX4_border 24 = .ok (.iconst (-1), 1) := by decide +kernel
theorem dX4_border_25 : decode cX4_border 25 = .ok (.istore 4, 2) := by decide +kernel
theorem dX4_border_27 : decode cX4_border 27 = .ok (.iconst 0, 1) := by decide +kernel
theorem dX4_border_28 : decode cX4_border 28 = .ok (.istore 5, 2) := by decide +kernel
theorem dX4_border_30 : decode cX4_border 30 = .ok (.iload 5, 2) := by decide +kernel
theorem dX4_border_32 : decode cX4_border 32 = .ok (.aload_n 0, 1) := by decide +kernel
theorem dX4_border_33 : decode cX4_border 33 = .ok (.getfield 95, 3) := by decide +kernel
theorem dX4_border_36 : decode cX4_border 36 = .ok (.if_icmp .ge 49, 3) := by decide +kernel
theorem dX4_border_39 : decode cX4_border 39 = .ok (.aload_n 0, 1) := by decide +kernel
theorem dX4_border_40 : decode cX4_border 40 = .ok (.getfield 36, 3) := by decide +kernel
theorem dX4_border_43 : decode cX4_border 43 = .ok (.iload 5, 2) := by decide +kernel
theorem dX4_border_45 : decode cX4_border 45 = .ok (.iaload, 1) := by decide +kernel
theorem dX4_border_46 : decode cX4_border 46 = .ok (.iload_n 1, 1) := by decide +kernel
theorem dX4_border_47 : decode cX4_border 47 = .ok (.if_icmp .ne 30, 3) := by decide +kernel
theorem dX4_border_50 : decode cX4_border 50 = .ok (.iload_n 2, 1) := by decide +kernel
theorem dX4_border_51 : decode cX4_border 51 = .ok (.ifCond .eq 20, 3) := by decide +kernel
theorem dX4_border_54 : decode cX4_border 54 = .ok (.iload_n 2, 1) := by decide +kernel
theorem dX4_border_55 : decode cX4_border 55 = .ok (.iconst 3, 1) := by decide +kernel
theorem dX4_border_56 : decode cX4_border 56 = .ok (.if_icmp .ne 21, 3) := by decide +kernel
theorem dX4_border_59 : decode cX4_border 59 = .ok (.aload_n 0, 1) := by decide +kernel
theorem dX4_border_60 : decode cX4_border 60 = .ok (.getfield 32, 3) := by decide +kernel
theorem dX4_border_63 : decode cX4_border 63 = .ok (.iload 5, 2) := by decide +kernel
theorem dX4_border_65 : decode cX4_border 65 = .ok (.laload, 1) := by decide +kernel
theorem dX4_border_66 : decode cX4_border 66 = .ok (.lconst 0, 1) := by decide +kernel
theorem dX4_border_67 : decode cX4_border 67 = .ok (.lcmp, 1) := by decide +kernel
theorem dX4_border_68 : decode cX4_border 68 = .ok (.ifCond .gt 9, 3) := by decide +kernel
theorem dX4_border_71 : decode cX4_border 71 = .ok (.iload_n 3, 1) := by decide +kernel
theorem dX4_border_72 : decode cX4_border 72 = .ok (.iconst 1, 1) := by decide +kernel
theorem dX4_border_73 : decode cX4_border 73 = .ok (.iadd, 1) := by decide +kernel
theorem dX4_border_74 : decode cX4_border 74 = .ok (.goto 4, 3) := by decide +kernel
theorem dX4_border_77 : decode cX4_border 77 = .ok (.iload_n 3, 1) := by decide +kernel
theorem dX4_border_78 : decode cX4_border 78 = .ok (.istore_n 3, 1) := by decide +kernel
theorem dX4_border_79 : decode cX4_border 79 = .ok (.iinc 5 1, 3) := by decide +kernel
theorem dX4_border_82 : decode cX4_border 82 = .ok (.goto (-52), 3) := by decide +kernel
theorem dX4_border_85 : decode cX4_border 85 = .ok (.bipush 119, 2) := by decide +kernel
theorem dX4_border_87 : decode cX4_border 87 = .ok (.istore 5, 2) := by decide +kernel
theorem dX4_border_89 : decode cX4_border 89 = .ok (.iload 5, 2) := by decide +kernel
theorem dX4_border_91 : decode cX4_border 91 = .ok (.ifCond .lt 48, 3) := by decide +kernel
theorem dX4_border_94 : decode cX4_border 94 = .ok (.aload_n 0, 1) := by decide +kernel
theorem dX4_border_95 : decode cX4_border 95 = .ok (.getfield 7, 3) := by decide +kernel
theorem dX4_border_98 : decode cX4_border 98 = .ok (.iload 5, 2) := by decide +kernel
theorem dX4_border_100 : decode cX4_border 100 = .ok (.iconst 2, 1) := by decide +kernel
theorem dX4_border_101 : decode cX4_border 101 = .ok (.idiv, 1) := by decide +kernel
theorem dX4_border_102 : decode cX4_border 102 = .ok (.baload, 1) := by decide +kernel
theorem dX4_border_103 : decode cX4_border 103 = .ok (.ifCond .eq 30, 3) := by decide +kernel
theorem dX4_border_106 : decode cX4_border 106 = .ok (.aload_n 0, 1) := by decide +kernel
theorem dX4_border_107 : decode cX4_border 107 = .ok (.iload 5, 2) := by decide +kernel
theorem dX4_border_109 : decode cX4_border 109 = .ok (.invokevirtual 128, 3) := by decide +kernel
theorem dX4_border_112 : decode cX4_border 112 = .ok (.iload_n 1, 1) := by decide +kernel
theorem dX4_border_113 : decode cX4_border 113 = .ok (.if_icmp .ne 20, 3) := by decide +kernel
theorem dX4_border_116 : decode cX4_border 116 = .ok (.iload_n 2, 1) := by decide +kernel
theorem dX4_border_117 : decode cX4_border 117 = .ok (.iconst 1, 1) := by decide +kernel
theorem dX4_border_118 : decode cX4_border 118 = .ok (.if_icmp .ne 9, 3) := by decide +kernel
theorem dX4_border_121 : decode cX4_border 121 = .ok (.iload_n 3, 1) := by decide +kernel
theorem dX4_border_122 : decode cX4_border 122 = .ok (.iconst 1, 1) := by decide +kernel
theorem dX4_border_123 : decode cX4_border 123 = .ok (.iadd, 1) := by decide +kernel
theorem dX4_border_124 : decode cX4_border 124 = .ok (.goto 4, 3) := by decide +kernel
theorem dX4_border_127 : decode cX4_border 127 = .ok (.iload_n 3, 1) := by decide +kernel
theorem dX4_border_128 : decode cX4_border 128 = .ok (.istore_n 3, 1) := by decide +kernel
theorem dX4_border_129 : decode cX4_border 129 = .ok (.iload 5, 2) := by decide +kernel
theorem dX4_border_131 : decode cX4_border 131 = .ok (.istore 4, 2) := by decide +kernel
theorem dX4_border_133 : decode cX4_border 133 = .ok (.iinc 5 (-1), 3) := by decide +kernel
theorem dX4_border_136 : decode cX4_border 136 = .ok (.goto (-47), 3) := by decide +kernel
theorem dX4_border_139 : decode cX4_border 139 = .ok (.iload_n 2, 1) := by decide +kernel
theorem dX4_border_140 : decode cX4_border 140 = .ok (.iconst 2, 1) := by decide +kernel
theorem dX4_border_141 : decode cX4_border 141 = .ok (.if_icmp .ne 8, 3) := by decide +kernel
theorem dX4_border_144 : decode cX4_border 144 = .ok (.iload 4, 2) := by decide +kernel
theorem dX4_border_146 : decode cX4_border 146 = .ok (.goto 22, 3) := by decide +kernel
theorem dX4_border_149 : decode cX4_border 149 = .ok (.iload_n 2, 1) := by decide +kernel
theorem dX4_border_150 : decode cX4_border 150 = .ok (.ifCond .eq 13, 3) := by decide +kernel
theorem dX4_border_153 : decode cX4_border 153 = .ok (.iload_n 2, 1) := by decide +kernel
theorem dX4_border_154 : decode cX4_border 154 = .ok (.iconst 1, 1) := by decide +kernel
theorem dX4_border_155 : decode cX4_border 155 = .ok (.if_icmp .eq 8, 3) := by decide +kernel
theorem dX4_border_158 : decode cX4_border 158 = .ok (.iload_n 2, 1) := by decide +kernel
theorem dX4_border_159 : decode cX4_border 159 = .ok (.iconst 3, 1) := by decide +kernel
theorem dX4_border_160 : decode cX4_border 160 = .ok (.if_icmp .ne 7, 3) := by decide +kernel
theorem dX4_border_163 : decode cX4_border 163 = .ok (.iload_n 3, 1) := by decide +kernel
theorem dX4_border_164 : decode cX4_border 164 = .ok (.goto 4, 3) := by decide +kernel
theorem dX4_border_167 : decode cX4_border 167 = .ok (.iconst (-1), 1) := by decide +kernel
theorem dX4_border_168 : decode cX4_border 168 = .ok (.ireturn, 1) := by decide +kernel
set_option maxRecDepth 20000 in
theorem ggX4_locate_X4_isIn : GoodIn wsX4_locate wsX4_isIn := goodIn_r _ [8] (by decide +kernel) (by decide +kernel)
set_option maxRecDepth 20000 in
theorem gX4_locate_X4_isIn : GoodIn wsX4_locate (va_wsS RX4 65 yX4_isIn wsX4_isIn) := goodIn_app (goodIn_of _ (by decide +kernel)) ggX4_locate_X4_isIn
set_option maxRecDepth 20000 in
theorem ggX4_locate_X4_refused : GoodIn wsX4_locate wsX4_refused := goodIn_r _ [12, 13, 76, 77, 78, 79, 80, 81, 82, 83, 84, 85, 86, 87, 88, 89, 90, 91] (by decide +kernel) (by decide +kernel)
set_option maxRecDepth 20000 in
theorem gX4_locate_X4_refused : GoodIn wsX4_locate (wsV RX4 69 RX4 yX4_refused wsX4_refused) := goodIn_app (goodIn_of _ (by decide +kernel)) ggX4_locate_X4_refused
set_option maxRecDepth 20000 in
theorem ggX4_locate_X4_make : GoodIn wsX4_locate wsX4_make := goodIn_r _ [17, 18, 19, 20, 21, 22, 1, 23, 24, 25, 26, 7, 27, 2, 3, 28, 29, 30, 31, 32, 33, 34, 35, 36, 37, 38, 39, 40, 41, 42, 43, 44, 45, 46, 47, 48, 49, 50, 51, 52, 53, 54, 55, 56, 57, 58, 4, 59, 60, 61, 62, 63, 64, 65, 66, 67, 68, 69, 70, 71, 72, 76, 77, 78, 79, 80, 81, 82, 83, 84, 85, 86, 87, 88, 89, 90, 91] (by decide +kernel) (by decide +kernel)
set_option maxRecDepth 20000 in
theorem gX4_locate_X4_make : GoodIn wsX4_locate (wsV RX4 125 RX4 yX4_make wsX4_make) := goodIn_app (goodIn_of _ (by decide +kernel)) ggX4_locate_X4_make
set_option maxRecDepth 20000 in
theorem ggX4_locate_X4_leaves : GoodIn wsX4_locate wsX4_leaves := goodIn_r _ [34, 1, 2, 3, 76, 77, 78, 79, 80, 81, 82, 83, 84, 85, 86, 87, 88, 89, 90, 91] (by decide +kernel) (by decide +kernel)
set_option maxRecDepth 20000 in
theorem gX4_locate_X4_leaves : GoodIn wsX4_locate (wsV RX4 88 RX4 yX4_leaves wsX4_leaves) := goodIn_app (goodIn_of _ (by decide +kernel)) ggX4_locate_X4_leaves
set_option maxRecDepth 20000 in
theorem ggX4_locate_X4_isOn : GoodIn wsX4_locate wsX4_isOn := goodIn_r _ [75, 67, 68, 7, 69, 70, 71, 72] (by decide +kernel) (by decide +kernel)
set_option maxRecDepth 20000 in
theorem gX4_locate_X4_isOn : GoodIn wsX4_locate (va_wsS RX4 61 yX4_isOn wsX4_isOn) := goodIn_app (goodIn_of _ (by decide +kernel)) ggX4_locate_X4_isOn
set_option maxRecDepth 20000 in
theorem ggX4_locate_X4_least : GoodIn wsX4_locate wsX4_least := goodIn_r _ [62, 20, 52, 21, 51, 63, 64, 65, 7, 66, 1, 22, 2, 3, 28, 29, 30, 67, 68, 69, 70, 71, 72, 76, 77, 78, 79, 80, 81, 82, 83, 84, 85, 86, 87, 88, 89, 90, 91] (by decide +kernel) (by decide +kernel)
set_option maxRecDepth 20000 in
theorem gX4_locate_X4_least : GoodIn wsX4_locate (wsV RX4 121 RX4 yX4_least wsX4_least) := goodIn_app (goodIn_of _ (by decide +kernel)) ggX4_locate_X4_least
theorem dX4_locate_0 : decode cX4_locate 0 = .ok (.aload_n 0, 1) := by decide +kernel
theorem dX4_locate_1 : decode cX4_locate 1 = .ok (.iload_n 1, 1) := by decide +kernel
theorem dX4_locate_2 : decode cX4_locate 2 = .ok (.invokestatic 65, 3) := by decide +kernel
theorem dX4_locate_5 : decode cX4_locate 5 = .ok (.ifCond .eq 14, 3) := by decide +kernel
theorem dX4_locate_8 : decode cX4_locate 8 = .ok (.iload_n 2, 1) := by decide +kernel
theorem dX4_locate_9 : decode cX4_locate 9 = .ok (.invokestatic 65, 3) := by decide +kernel
theorem dX4_locate_12 : decode cX4_locate 12 = .ok (.ifCond .eq 7, 3) := by decide +kernel
theorem dX4_locate_15 : decode cX4_locate 15 = .ok (.iconst 0, 1) := by decide +kernel
theorem dX4_locate_16 : decode cX4_locate 16 = .ok (.goto 4, 3) := by decide +kernel
theorem dX4_locate_19 : decode cX4_locate 19 = .ok (.iconst 1, 1) := by decide +kernel
theorem dX4_locate_20 : decode cX4_locate 20 = .ok (.invokevirtual 69, 3) := by decide +kernel
theorem dX4_locate_23 : decode cX4_locate 23 = .ok (.ifCond .eq 5, 3) := by decide +kernel
theorem dX4_locate_26 : decode cX4_locate 26 = .ok (.iconst 0, 1) := by decide +kernel
theorem dX4_locate_27 : decode cX4_locate 27 = .ok (.ireturn, 1) := by decide +kernel
theorem dX4_locate_28 : decode cX4_locate 28 = .ok (.aload_n 0, 1) := by decide +kernel
theorem dX4_locate_29 : decode cX4_locate 29 = .ok (.invokevirtual 125, 3) := by decide +kernel
theorem dX4_locate_32 : decode cX4_locate 32 = .ok (.iconst 0, 1) := by decide +kernel
theorem dX4_locate_33 : decode cX4_locate 33 = .ok (.istore_n 3, 1) := by decide +kernel
theorem dX4_locate_34 : decode cX4_locate 34 = .ok (.iload_n 3, 1) := by decide +kernel
theorem dX4_locate_35 : decode cX4_locate 35 = .ok (.bipush 120, 2) := by decide +kernel
theorem dX4_locate_37 : decode cX4_locate 37 = .ok (.if_icmp .ge 24, 3) := by decide +kernel
theorem dX4_locate_40 : decode cX4_locate 40 = .ok (.aload_n 0, 1) := by decide +kernel
theorem dX4_locate_41 : decode cX4_locate 41 = .ok (.iload_n 3, 1) := by decide +kernel
theorem dX4_locate_42 : decode cX4_locate 42 = .ok (.iload_n 1, 1) := by decide +kernel
theorem dX4_locate_43 : decode cX4_locate 43 = .ok (.iload_n 2, 1) := by decide +kernel
theorem dX4_locate_44 : decode cX4_locate 44 = .ok (.invokevirtual 88, 3) := by decide +kernel
theorem dX4_locate_47 : decode cX4_locate 47 = .ok (.ifCond .eq 8, 3) := by decide +kernel
theorem dX4_locate_50 : decode cX4_locate 50 = .ok (.bipush (-100), 2) := by decide +kernel
theorem dX4_locate_52 : decode cX4_locate 52 = .ok (.iload_n 3, 1) := by decide +kernel
theorem dX4_locate_53 : decode cX4_locate 53 = .ok (.isub, 1) := by decide +kernel
theorem dX4_locate_54 : decode cX4_locate 54 = .ok (.ireturn, 1) := by decide +kernel
theorem dX4_locate_55 : decode cX4_locate 55 = .ok (.iinc 3 1, 3) := by decide +kernel
theorem dX4_locate_58 : decode cX4_locate 58 = .ok (.goto (-24), 3) := by decide +kernel
theorem dX4_locate_61 : decode cX4_locate 61 = .ok (.iconst 0, 1) := by decide +kernel
theorem dX4_locate_62 : decode cX4_locate 62 = .ok (.istore_n 3, 1) := by decide +kernel
theorem dX4_locate_63 : decode cX4_locate 63 = .ok (.iload_n 3, 1) := by decide +kernel
theorem dX4_locate_64 : decode cX4_locate 64 = .ok (.bipush 60, 2) := by decide +kernel
theorem dX4_locate_66 : decode cX4_locate 66 = .ok (.if_icmp .ge 67, 3) := by decide +kernel
theorem dX4_locate_69 : decode cX4_locate 69 = .ok (.aload_n 0, 1) := by decide +kernel
theorem dX4_locate_70 : decode cX4_locate 70 = .ok (.getfield 7, 3) := by decide +kernel
theorem dX4_locate_73 : decode cX4_locate 73 = .ok (.iload_n 3, 1) := by decide +kernel
theorem dX4_locate_74 : decode cX4_locate 74 = .ok (.baload, 1) := by decide +kernel
theorem dX4_locate_75 : decode cX4_locate 75 = .ok (.ifCond .eq 52, 3) := by decide +kernel
theorem dX4_locate_78 : decode cX4_locate 78 = .ok (.aload_n 0, 1) := by decide +kernel
theorem dX4_locate_79 : decode cX4_locate 79 = .ok (.getfield 13, 3) := by decide +kernel
theorem dX4_locate_82 : decode cX4_locate 82 = .ok (.iconst 2, 1) := by decide +kernel
theorem dX4_locate_83 : decode cX4_locate 83 = .ok (.iload_n 3, 1) := by decide +kernel
theorem dX4_locate_84 : decode cX4_locate 84 = .ok (.imul, 1) := by decide +kernel
theorem dX4_locate_85 : decode cX4_locate 85 = .ok (.iaload, 1) := by decide +kernel
theorem dX4_locate_86 : decode cX4_locate 86 = .ok (.aload_n 0, 1) := by decide +kernel
theorem dX4_locate_87 : decode cX4_locate 87 = .ok (.getfield 17, 3) := by decide +kernel
theorem dX4_locate_90 : decode cX4_locate 90 = .ok (.iconst 2, 1) := by decide +kernel
theorem dX4_locate_91 : decode cX4_locate 91 = .ok (.iload_n 3, 1) := by decide +kernel
theorem dX4_locate_92 : decode cX4_locate 92 = .ok (.imul, 1) := by decide +kernel
theorem dX4_locate_93 : decode cX4_locate 93 = .ok (.iaload, 1) := by decide +kernel
theorem dX4_locate_94 : decode cX4_locate 94 = .ok (.aload_n 0, 1) := by decide +kernel
theorem dX4_locate_95 : decode cX4_locate 95 = .ok (.getfield 13, 3) := by decide +kernel
theorem dX4_locate_98 : decode cX4_locate 98 = .ok (.iconst 2, 1) := by decide +kernel
theorem dX4_locate_99 : decode cX4_locate 99 = .ok (.iload_n 3, 1) := by decide +kernel
theorem dX4_locate_100 : decode cX4_locate 100 = .ok (.imul, 1) := by decide +kernel
theorem dX4_locate_101 : decode cX4_locate 101 = .ok (.iconst 1, 1) := by decide +kernel
theorem dX4_locate_102 : decode cX4_locate 102 = .ok (.iadd, 1) := by decide +kernel
theorem dX4_locate_103 : decode cX4_locate 103 = .ok (.iaload, 1) := by decide +kernel
theorem dX4_locate_104 : decode cX4_locate 104 = .ok (.aload_n 0, 1) := by decide +kernel
theorem dX4_locate_105 : decode cX4_locate 105 = .ok (.getfield 17, 3) := by decide +kernel
theorem dX4_locate_108 : decode cX4_locate 108 = .ok (.iconst 2, 1) := by decide +kernel
theorem dX4_locate_109 : decode cX4_locate 109 = .ok (.iload_n 3, 1) := by decide +kernel
theorem dX4_locate_110 : decode cX4_locate 110 = .ok (.imul, 1) := by decide +kernel
theorem dX4_locate_111 : decode cX4_locate 111 = .ok (.iconst 1, 1) := by decide +kernel
theorem dX4_locate_112 : decode cX4_locate 112 = .ok (.iadd, 1) := by decide +kernel
theorem dX4_locate_113 : decode cX4_locate 113 = .ok (.iaload, 1) := by decide +kernel
theorem dX4_locate_114 : decode cX4_locate 114 = .ok (.iload_n 1, 1) := by decide +kernel
theorem dX4_locate_115 : decode cX4_locate 115 = .ok (.iload_n 2, 1) := by decide +kernel
theorem dX4_locate_116 : decode cX4_locate 116 = .ok (.invokestatic 61, 3) := by decide +kernel
theorem dX4_locate_119 : decode cX4_locate 119 = .ok (.ifCond .eq 8, 3) := by decide +kernel
theorem dX4_locate_122 : decode cX4_locate 122 = .ok (.bipush (-2), 2) := by decide +kernel
theorem dX4_locate_124 : decode cX4_locate 124 = .ok (.iload_n 3, 1) := by decide +kernel
theorem dX4_locate_125 : decode cX4_locate 125 = .ok (.isub, 1) := by decide +kernel
theorem dX4_locate_126 : decode cX4_locate 126 = .ok (.ireturn, 1) := by decide +kernel
theorem dX4_locate_127 : decode cX4_locate 127 = .ok (.iinc 3 1, 3) := by decide +kernel
theorem dX4_locate_130 : decode cX4_locate 130 = .ok (.goto (-67), 3) := by decide +kernel
theorem dX4_locate_133 : decode cX4_locate 133 = .ok (.aload_n 0, 1) := by decide +kernel
theorem dX4_locate_134 : decode cX4_locate 134 = .ok (.iload_n 1, 1) := by decide +kernel
theorem dX4_locate_135 : decode cX4_locate 135 = .ok (.iload_n 2, 1) := by decide +kernel
theorem dX4_locate_136 : decode cX4_locate 136 = .ok (.iconst (-1), 1) := by decide +kernel
theorem dX4_locate_137 : decode cX4_locate 137 = .ok (.invokevirtual 121, 3) := by decide +kernel
theorem dX4_locate_140 : decode cX4_locate 140 = .ok (.istore_n 3, 1) := by decide +kernel
theorem dX4_locate_141 : decode cX4_locate 141 = .ok (.iload_n 3, 1) := by decide +kernel
theorem dX4_locate_142 : decode cX4_locate 142 = .ok (.ifCond .ge 7, 3) := by decide +kernel
theorem dX4_locate_145 : decode cX4_locate 145 = .ok (.iconst 0, 1) := by decide +kernel
theorem dX4_locate_146 : decode cX4_locate 146 = .ok (.goto 9, 3) := by decide +kernel
theorem dX4_locate_149 : decode cX4_locate 149 = .ok (.aload_n 0, 1) := by decide +kernel
theorem dX4_locate_150 : decode cX4_locate 150 = .ok (.getfield 36, 3) := by decide +kernel
theorem dX4_locate_153 : decode cX4_locate 153 = .ok (.iload_n 3, 1) := by decide +kernel
theorem dX4_locate_154 : decode cX4_locate 154 = .ok (.iaload, 1) := by decide +kernel
theorem dX4_locate_155 : decode cX4_locate 155 = .ok (.ireturn, 1) := by decide +kernel
set_option maxRecDepth 20000 in
theorem ggX4_height_X4_back : GoodIn wsX4_height wsX4_back := goodIn_r _ [7] (by decide +kernel) (by decide +kernel)
set_option maxRecDepth 20000 in
theorem gX4_height_X4_back : GoodIn wsX4_height (va_wsS RX4 80 yX4_back wsX4_back) := goodIn_app (goodIn_of _ (by decide +kernel)) ggX4_height_X4_back
theorem dX4_height_0 : decode cX4_height 0 = .ok (.aload_n 0, 1) := by decide +kernel
theorem dX4_height_1 : decode cX4_height 1 = .ok (.getfield 13, 3) := by decide +kernel
theorem dX4_height_4 : decode cX4_height 4 = .ok (.iconst 2, 1) := by decide +kernel
theorem dX4_height_5 : decode cX4_height 5 = .ok (.iload_n 1, 1) := by decide +kernel
theorem dX4_height_6 : decode cX4_height 6 = .ok (.imul, 1) := by decide +kernel
theorem dX4_height_7 : decode cX4_height 7 = .ok (.iaload, 1) := by decide +kernel
theorem dX4_height_8 : decode cX4_height 8 = .ok (.aload_n 0, 1) := by decide +kernel
theorem dX4_height_9 : decode cX4_height 9 = .ok (.getfield 13, 3) := by decide +kernel
theorem dX4_height_12 : decode cX4_height 12 = .ok (.iconst 2, 1) := by decide +kernel
theorem dX4_height_13 : decode cX4_height 13 = .ok (.iload_n 1, 1) := by decide +kernel
theorem dX4_height_14 : decode cX4_height 14 = .ok (.imul, 1) := by decide +kernel
theorem dX4_height_15 : decode cX4_height 15 = .ok (.iconst 1, 1) := by decide +kernel
theorem dX4_height_16 : decode cX4_height 16 = .ok (.iadd, 1) := by decide +kernel
theorem dX4_height_17 : decode cX4_height 17 = .ok (.iaload, 1) := by decide +kernel
theorem dX4_height_18 : decode cX4_height 18 = .ok (.if_icmp .ge 9, 3) := by decide +kernel
theorem dX4_height_21 : decode cX4_height 21 = .ok (.iconst 2, 1) := by decide +kernel
theorem dX4_height_22 : decode cX4_height 22 = .ok (.iload_n 1, 1) := by decide +kernel
theorem dX4_height_23 : decode cX4_height 23 = .ok (.imul, 1) := by decide +kernel
theorem dX4_height_24 : decode cX4_height 24 = .ok (.goto 8, 3) := by decide +kernel
theorem dX4_height_27 : decode cX4_height 27 = .ok (.iconst 2, 1) := by decide +kernel
theorem dX4_height_28 : decode cX4_height 28 = .ok (.iload_n 1, 1) := by decide +kernel
theorem dX4_height_29 : decode cX4_height 29 = .ok (.imul, 1) := by decide +kernel
theorem dX4_height_30 : decode cX4_height 30 = .ok (.iconst 1, 1) := by decide +kernel
theorem dX4_height_31 : decode cX4_height 31 = .ok (.iadd, 1) := by decide +kernel
theorem dX4_height_32 : decode cX4_height 32 = .ok (.istore 4, 2) := by decide +kernel
theorem dX4_height_34 : decode cX4_height 34 = .ok (.iload 4, 2) := by decide +kernel
theorem dX4_height_36 : decode cX4_height 36 = .ok (.invokestatic 80, 3) := by decide +kernel
theorem dX4_height_39 : decode cX4_height 39 = .ok (.istore 5, 2) := by decide +kernel
theorem dX4_height_41 : decode cX4_height 41 = .ok (.aload_n 0, 1) := by decide +kernel
theorem dX4_height_42 : decode cX4_height 42 = .ok (.getfield 13, 3) := by decide +kernel
theorem dX4_height_45 : decode cX4_height 45 = .ok (.iload 4, 2) := by decide +kernel
theorem dX4_height_47 : decode cX4_height 47 = .ok (.iaload, 1) := by decide +kernel
theorem dX4_height_48 : decode cX4_height 48 = .ok (.aload_n 0, 1) := by decide +kernel
theorem dX4_height_49 : decode cX4_height 49 = .ok (.getfield 13, 3) := by decide +kernel
theorem dX4_height_52 : decode cX4_height 52 = .ok (.iload 5, 2) := by decide +kernel
theorem dX4_height_54 : decode cX4_height 54 = .ok (.iaload, 1) := by decide +kernel
theorem dX4_height_55 : decode cX4_height 55 = .ok (.if_icmp .ne 102, 3) := by decide +kernel
theorem dX4_height_58 : decode cX4_height 58 = .ok (.aload_n 0, 1) := by decide +kernel
theorem dX4_height_59 : decode cX4_height 59 = .ok (.getfield 17, 3) := by decide +kernel
theorem dX4_height_62 : decode cX4_height 62 = .ok (.iload 4, 2) := by decide +kernel
theorem dX4_height_64 : decode cX4_height 64 = .ok (.iaload, 1) := by decide +kernel
theorem dX4_height_65 : decode cX4_height 65 = .ok (.aload_n 0, 1) := by decide +kernel
theorem dX4_height_66 : decode cX4_height 66 = .ok (.getfield 17, 3) := by decide +kernel
theorem dX4_height_69 : decode cX4_height 69 = .ok (.iload 5, 2) := by decide +kernel
theorem dX4_height_71 : decode cX4_height 71 = .ok (.iaload, 1) := by decide +kernel
theorem dX4_height_72 : decode cX4_height 72 = .ok (.if_icmp .ge 13, 3) := by decide +kernel
theorem dX4_height_75 : decode cX4_height 75 = .ok (.aload_n 0, 1) := by decide +kernel
theorem dX4_height_76 : decode cX4_height 76 = .ok (.getfield 17, 3) := by decide +kernel
theorem dX4_height_79 : decode cX4_height 79 = .ok (.iload 4, 2) := by decide +kernel
theorem dX4_height_81 : decode cX4_height 81 = .ok (.iaload, 1) := by decide +kernel
theorem dX4_height_82 : decode cX4_height 82 = .ok (.goto 10, 3) := by decide +kernel
theorem dX4_height_85 : decode cX4_height 85 = .ok (.aload_n 0, 1) := by decide +kernel
theorem dX4_height_86 : decode cX4_height 86 = .ok (.getfield 17, 3) := by decide +kernel
theorem dX4_height_89 : decode cX4_height 89 = .ok (.iload 5, 2) := by decide +kernel
theorem dX4_height_91 : decode cX4_height 91 = .ok (.iaload, 1) := by decide +kernel
theorem dX4_height_92 : decode cX4_height 92 = .ok (.istore 6, 2) := by decide +kernel
theorem dX4_height_94 : decode cX4_height 94 = .ok (.aload_n 0, 1) := by decide +kernel
theorem dX4_height_95 : decode cX4_height 95 = .ok (.getfield 17, 3) := by decide +kernel
theorem dX4_height_98 : decode cX4_height 98 = .ok (.iload 4, 2) := by decide +kernel
theorem dX4_height_100 : decode cX4_height 100 = .ok (.iaload, 1) := by decide +kernel
theorem dX4_height_101 : decode cX4_height 101 = .ok (.aload_n 0, 1) := by decide +kernel
theorem dX4_height_102 : decode cX4_height 102 = .ok (.getfield 17, 3) := by decide +kernel
theorem dX4_height_105 : decode cX4_height 105 = .ok (.iload 5, 2) := by decide +kernel
theorem dX4_height_107 : decode cX4_height 107 = .ok (.iaload, 1) := by decide +kernel
theorem dX4_height_108 : decode cX4_height 108 = .ok (.if_icmp .ge 13, 3) := by decide +kernel
theorem dX4_height_111 : decode cX4_height 111 = .ok (.aload_n 0, 1) := by decide +kernel
theorem dX4_height_112 : decode cX4_height 112 = .ok (.getfield 17, 3) := by decide +kernel
theorem dX4_height_115 : decode cX4_height 115 = .ok (.iload 5, 2) := by decide +kernel
theorem dX4_height_117 : decode cX4_height 117 = .ok (.iaload, 1) := by decide +kernel
theorem dX4_height_118 : decode cX4_height 118 = .ok (.goto 10, 3) := by decide +kernel
theorem dX4_height_121 : decode cX4_height 121 = .ok (.aload_n 0, 1) := by decide +kernel
theorem dX4_height_122 : decode cX4_height 122 = .ok (.getfield 17, 3) := by decide +kernel
theorem dX4_height_125 : decode cX4_height 125 = .ok (.iload 4, 2) := by decide +kernel
theorem dX4_height_127 : decode cX4_height 127 = .ok (.iaload, 1) := by decide +kernel
theorem dX4_height_128 : decode cX4_height 128 = .ok (.istore 7, 2) := by decide +kernel
theorem dX4_height_130 : decode cX4_height 130 = .ok (.iload 6, 2) := by decide +kernel
theorem dX4_height_132 : decode cX4_height 132 = .ok (.iload_n 3, 1) := by decide +kernel
theorem dX4_height_133 : decode cX4_height 133 = .ok (.if_icmp .le 9, 3) := by decide +kernel
theorem dX4_height_136 : decode cX4_height 136 = .ok (.iload 6, 2) := by decide +kernel
theorem dX4_height_138 : decode cX4_height 138 = .ok (.i2l, 1) := by decide +kernel
theorem dX4_height_139 : decode cX4_height 139 = .ok (.goto 17, 3) := by decide +kernel
theorem dX4_height_142 : decode cX4_height 142 = .ok (.iload 7, 2) := by decide +kernel
theorem dX4_height_144 : decode cX4_height 144 = .ok (.iload_n 3, 1) := by decide +kernel
theorem dX4_height_145 : decode cX4_height 145 = .ok (.if_icmp .le 8, 3) := by decide +kernel
theorem dX4_height_148 : decode cX4_height 148 = .ok (.iload_n 3, 1) := by decide +kernel
theorem dX4_height_149 : decode cX4_height 149 = .ok (.i2l, 1) := by decide +kernel
theorem dX4_height_150 : decode cX4_height 150 = .ok (.goto 6, 3) := by decide +kernel
theorem dX4_height_153 : decode cX4_height 153 = .ok (.ldc2_w 140, 3) := by decide +kernel
theorem dX4_height_156 : decode cX4_height 156 = .ok (.lreturn, 1) := by decide +kernel
theorem dX4_height_157 : decode cX4_height 157 = .ok (.aload_n 0, 1) := by decide +kernel
theorem dX4_height_158 : decode cX4_height 158 = .ok (.getfield 17, 3) := by decide +kernel
theorem dX4_height_161 : decode cX4_height 161 = .ok (.iload 4, 2) := by decide +kernel
theorem dX4_height_163 : decode cX4_height 163 = .ok (.iaload, 1) := by decide +kernel
theorem dX4_height_164 : decode cX4_height 164 = .ok (.i2l, 1) := by decide +kernel
theorem dX4_height_165 : decode cX4_height 165 = .ok (.aload_n 0, 1) := by decide +kernel
theorem dX4_height_166 : decode cX4_height 166 = .ok (.getfield 13, 3) := by decide +kernel
theorem dX4_height_169 : decode cX4_height 169 = .ok (.iload 5, 2) := by decide +kernel
theorem dX4_height_171 : decode cX4_height 171 = .ok (.iaload, 1) := by decide +kernel
theorem dX4_height_172 : decode cX4_height 172 = .ok (.aload_n 0, 1) := by decide +kernel
theorem dX4_height_173 : decode cX4_height 173 = .ok (.getfield 13, 3) := by decide +kernel
theorem dX4_height_176 : decode cX4_height 176 = .ok (.iload 4, 2) := by decide +kernel
theorem dX4_height_178 : decode cX4_height 178 = .ok (.iaload, 1) := by decide +kernel
theorem dX4_height_179 : decode cX4_height 179 = .ok (.isub, 1) := by decide +kernel
theorem dX4_height_180 : decode cX4_height 180 = .ok (.i2l, 1) := by decide +kernel
theorem dX4_height_181 : decode cX4_height 181 = .ok (.lmul, 1) := by decide +kernel
theorem dX4_height_182 : decode cX4_height 182 = .ok (.aload_n 0, 1) := by decide +kernel
theorem dX4_height_183 : decode cX4_height 183 = .ok (.getfield 17, 3) := by decide +kernel
theorem dX4_height_186 : decode cX4_height 186 = .ok (.iload 5, 2) := by decide +kernel
theorem dX4_height_188 : decode cX4_height 188 = .ok (.iaload, 1) := by decide +kernel
theorem dX4_height_189 : decode cX4_height 189 = .ok (.aload_n 0, 1) := by decide +kernel
theorem dX4_height_190 : decode cX4_height 190 = .ok (.getfield 17, 3) := by decide +kernel
theorem dX4_height_193 : decode cX4_height 193 = .ok (.iload 4, 2) := by decide +kernel
theorem dX4_height_195 : decode cX4_height 195 = .ok (.iaload, 1) := by decide +kernel
theorem dX4_height_196 : decode cX4_height 196 = .ok (.isub, 1) := by decide +kernel
theorem dX4_height_197 : decode cX4_height 197 = .ok (.i2l, 1) := by decide +kernel
theorem dX4_height_198 : decode cX4_height 198 = .ok (.iload_n 2, 1) := by decide +kernel
theorem dX4_height_199 : decode cX4_height 199 = .ok (.aload_n 0, 1) := by decide +kernel
theorem dX4_height_200 : decode cX4_height 200 = .ok (.getfield 13, 3) := by decide +kernel
theorem dX4_height_203 : decode cX4_height 203 = .ok (.iload 4, 2) := by decide +kernel
theorem dX4_height_205 : decode cX4_height 205 = .ok (.iaload, 1) := by decide +kernel
theorem dX4_height_206 : decode cX4_height 206 = .ok (.isub, 1) := by decide +kernel
theorem dX4_height_207 : decode cX4_height 207 = .ok (.i2l, 1) := by decide +kernel
theorem dX4_height_208 : decode cX4_height 208 = .ok (.lmul, 1) := by decide +kernel
theorem dX4_height_209 : decode cX4_height 209 = .ok (.ladd, 1) := by decide +kernel
theorem dX4_height_210 : decode cX4_height 210 = .ok (.lreturn, 1) := by decide +kernel
theorem dX4_width_0 : decode cX4_width 0 = .ok (.aload_n 0, 1) := by decide +kernel
theorem dX4_width_1 : decode cX4_width 1 = .ok (.getfield 13, 3) := by decide +kernel
theorem dX4_width_4 : decode cX4_width 4 = .ok (.iconst 2, 1) := by decide +kernel
theorem dX4_width_5 : decode cX4_width 5 = .ok (.iload_n 1, 1) := by decide +kernel
theorem dX4_width_6 : decode cX4_width 6 = .ok (.imul, 1) := by decide +kernel
theorem dX4_width_7 : decode cX4_width 7 = .ok (.iconst 1, 1) := by decide +kernel
theorem dX4_width_8 : decode cX4_width 8 = .ok (.iadd, 1) := by decide +kernel
theorem dX4_width_9 : decode cX4_width 9 = .ok (.iaload, 1) := by decide +kernel
theorem dX4_width_10 : decode cX4_width 10 = .ok (.aload_n 0, 1) := by decide +kernel
theorem dX4_width_11 : decode cX4_width 11 = .ok (.getfield 13, 3) := by decide +kernel
theorem dX4_width_14 : decode cX4_width 14 = .ok (.iconst 2, 1) := by decide +kernel
theorem dX4_width_15 : decode cX4_width 15 = .ok (.iload_n 1, 1) := by decide +kernel
theorem dX4_width_16 : decode cX4_width 16 = .ok (.imul, 1) := by decide +kernel
theorem dX4_width_17 : decode cX4_width 17 = .ok (.iaload, 1) := by decide +kernel
theorem dX4_width_18 : decode cX4_width 18 = .ok (.isub, 1) := by decide +kernel
theorem dX4_width_19 : decode cX4_width 19 = .ok (.istore_n 2, 1) := by decide +kernel
theorem dX4_width_20 : decode cX4_width 20 = .ok (.iload_n 2, 1) := by decide +kernel
theorem dX4_width_21 : decode cX4_width 21 = .ok (.ifCond .ne 7, 3) := by decide +kernel
theorem dX4_width_24 : decode cX4_width 24 = .ok (.lconst 1, 1) := by decide +kernel
theorem dX4_width_25 : decode cX4_width 25 = .ok (.goto 15, 3) := by decide +kernel
theorem dX4_width_28 : decode cX4_width 28 = .ok (.iload_n 2, 1) := by decide +kernel
theorem dX4_width_29 : decode cX4_width 29 = .ok (.ifCond .ge 9, 3) := by decide +kernel
theorem dX4_width_32 : decode cX4_width 32 = .ok (.iload_n 2, 1) := by decide +kernel
theorem dX4_width_33 : decode cX4_width 33 = .ok (.ineg, 1) := by decide +kernel
theorem dX4_width_34 : decode cX4_width 34 = .ok (.i2l, 1) := by decide +kernel
theorem dX4_width_35 : decode cX4_width 35 = .ok (.goto 5, 3) := by decide +kernel
theorem dX4_width_38 : decode cX4_width 38 = .ok (.iload_n 2, 1) := by decide +kernel
theorem dX4_width_39 : decode cX4_width 39 = .ok (.i2l, 1) := by decide +kernel
theorem dX4_width_40 : decode cX4_width 40 = .ok (.lreturn, 1) := by decide +kernel
set_option maxRecDepth 20000 in
theorem ggX4_isMet_X4_height : GoodIn wsX4_isMet wsX4_height := goodIn_r _ [6, 1, 7, 8, 9, 10, 5, 11, 16, 17, 18, 19, 20, 21, 22, 23, 24, 25, 26, 27, 28, 29, 30, 31] (by decide +kernel) (by decide +kernel)
set_option maxRecDepth 20000 in
theorem gX4_isMet_X4_height : GoodIn wsX4_isMet (wsV RX4 142 RX4 yX4_height wsX4_height) := goodIn_app (goodIn_of _ (by decide +kernel)) ggX4_isMet_X4_height
set_option maxRecDepth 20000 in
theorem ggX4_isMet_X4_width : GoodIn wsX4_isMet wsX4_width := goodIn_r _ [15, 1, 16, 17, 18, 19, 20, 21, 22, 23, 24, 25, 26, 27, 28, 29, 30, 31] (by decide +kernel) (by decide +kernel)
set_option maxRecDepth 20000 in
theorem gX4_isMet_X4_width : GoodIn wsX4_isMet (wsV RX4 146 RX4 yX4_width wsX4_width) := goodIn_app (goodIn_of _ (by decide +kernel)) ggX4_isMet_X4_width
theorem dX4_isMet_0 : decode cX4_isMet 0 = .ok (.aload_n 0, 1) := by decide +kernel
theorem dX4_isMet_1 : decode cX4_isMet 1 = .ok (.getfield 13, 3) := by decide +kernel
theorem dX4_isMet_4 : decode cX4_isMet 4 = .ok (.iconst 2, 1) := by decide +kernel
theorem dX4_isMet_5 : decode cX4_isMet 5 = .ok (.iload_n 1, 1) := by decide +kernel
theorem dX4_isMet_6 : decode cX4_isMet 6 = .ok (.imul, 1) := by decide +kernel
theorem dX4_isMet_7 : decode cX4_isMet 7 = .ok (.iaload, 1) := by decide +kernel
theorem dX4_isMet_8 : decode cX4_isMet 8 = .ok (.istore 4, 2) := by decide +kernel
theorem dX4_isMet_10 : decode cX4_isMet 10 = .ok (.aload_n 0, 1) := by decide +kernel
theorem dX4_isMet_11 : decode cX4_isMet 11 = .ok (.getfield 13, 3) := by decide +kernel
theorem dX4_isMet_14 : decode cX4_isMet 14 = .ok (.iconst 2, 1) := by decide +kernel
theorem dX4_isMet_15 : decode cX4_isMet 15 = .ok (.iload_n 1, 1) := by decide +kernel
theorem dX4_isMet_16 : decode cX4_isMet 16 = .ok (.imul, 1) := by decide +kernel
theorem dX4_isMet_17 : decode cX4_isMet 17 = .ok (.iconst 1, 1) := by decide +kernel
theorem dX4_isMet_18 : decode cX4_isMet 18 = .ok (.iadd, 1) := by decide +kernel
theorem dX4_isMet_19 : decode cX4_isMet 19 = .ok (.iaload, 1) := by decide +kernel
theorem dX4_isMet_20 : decode cX4_isMet 20 = .ok (.istore 5, 2) := by decide +kernel
theorem dX4_isMet_22 : decode cX4_isMet 22 = .ok (.iload 4, 2) := by decide +kernel
theorem dX4_isMet_24 : decode cX4_isMet 24 = .ok (.iload 5, 2) := by decide +kernel
theorem dX4_isMet_26 : decode cX4_isMet 26 = .ok (.if_icmp .ne 28, 3) := by decide +kernel
theorem dX4_isMet_29 : decode cX4_isMet 29 = .ok (.iload 4, 2) := by decide +kernel
theorem dX4_isMet_31 : decode cX4_isMet 31 = .ok (.iload_n 2, 1) := by decide +kernel
theorem dX4_isMet_32 : decode cX4_isMet 32 = .ok (.if_icmp .ne 20, 3) := by decide +kernel
theorem dX4_isMet_35 : decode cX4_isMet 35 = .ok (.aload_n 0, 1) := by decide +kernel
theorem dX4_isMet_36 : decode cX4_isMet 36 = .ok (.iload_n 1, 1) := by decide +kernel
theorem dX4_isMet_37 : decode cX4_isMet 37 = .ok (.iload_n 2, 1) := by decide +kernel
theorem dX4_isMet_38 : decode cX4_isMet 38 = .ok (.iload_n 3, 1) := by decide +kernel
theorem dX4_isMet_39 : decode cX4_isMet 39 = .ok (.invokevirtual 142, 3) := by decide +kernel
theorem dX4_isMet_42 : decode cX4_isMet 42 = .ok (.iload_n 3, 1) := by decide +kernel
theorem dX4_isMet_43 : decode cX4_isMet 43 = .ok (.i2l, 1) := by decide +kernel
theorem dX4_isMet_44 : decode cX4_isMet 44 = .ok (.lcmp, 1) := by decide +kernel
theorem dX4_isMet_45 : decode cX4_isMet 45 = .ok (.ifCond .lt 7, 3) := by decide +kernel
theorem dX4_isMet_48 : decode cX4_isMet 48 = .ok (.iconst 1, 1) := by decide +kernel
theorem dX4_isMet_49 : decode cX4_isMet 49 = .ok (.goto 4, 3) := by decide +kernel
theorem dX4_isMet_52 : decode cX4_isMet 52 = .ok (.iconst 0, 1) := by decide +kernel
theorem dX4_isMet_53 : decode cX4_isMet 53 = .ok (.ireturn, 1) := by decide +kernel
theorem dX4_isMet_54 : decode cX4_isMet 54 = .ok (.iload 4, 2) := by decide +kernel
theorem dX4_isMet_56 : decode cX4_isMet 56 = .ok (.iload 5, 2) := by decide +kernel
theorem dX4_isMet_58 : decode cX4_isMet 58 = .ok (.if_icmp .ge 23, 3) := by decide +kernel
theorem dX4_isMet_61 : decode cX4_isMet 61 = .ok (.iload_n 2, 1) := by decide +kernel
theorem dX4_isMet_62 : decode cX4_isMet 62 = .ok (.iload 4, 2) := by decide +kernel
theorem dX4_isMet_64 : decode cX4_isMet 64 = .ok (.if_icmp .lt 13, 3) := by decide +kernel
theorem dX4_isMet_67 : decode cX4_isMet 67 = .ok (.iload_n 2, 1) := by decide +kernel
theorem dX4_isMet_68 : decode cX4_isMet 68 = .ok (.iload 5, 2) := by decide +kernel
theorem dX4_isMet_70 : decode cX4_isMet 70 = .ok (.if_icmp .gt 7, 3) := by decide +kernel
theorem dX4_isMet_73 : decode cX4_isMet 73 = .ok (.iconst 1, 1) := by decide +kernel
theorem dX4_isMet_74 : decode cX4_isMet 74 = .ok (.goto 24, 3) := by decide +kernel
theorem dX4_isMet_77 : decode cX4_isMet 77 = .ok (.iconst 0, 1) := by decide +kernel
theorem dX4_isMet_78 : decode cX4_isMet 78 = .ok (.goto 20, 3) := by decide +kernel
theorem dX4_isMet_81 : decode cX4_isMet 81 = .ok (.iload_n 2, 1) := by decide +kernel
theorem dX4_isMet_82 : decode cX4_isMet 82 = .ok (.iload 5, 2) := by decide +kernel
theorem dX4_isMet_84 : decode cX4_isMet 84 = .ok (.if_icmp .lt 13, 3) := by decide +kernel
theorem dX4_isMet_87 : decode cX4_isMet 87 = .ok (.iload_n 2, 1) := by decide +kernel
theorem dX4_isMet_88 : decode cX4_isMet 88 = .ok (.iload 4, 2) := by decide +kernel
theorem dX4_isMet_90 : decode cX4_isMet 90 = .ok (.if_icmp .gt 7, 3) := by decide +kernel
theorem dX4_isMet_93 : decode cX4_isMet 93 = .ok (.iconst 1, 1) := by decide +kernel
theorem dX4_isMet_94 : decode cX4_isMet 94 = .ok (.goto 4, 3) := by decide +kernel
theorem dX4_isMet_97 : decode cX4_isMet 97 = .ok (.iconst 0, 1) := by decide +kernel
theorem dX4_isMet_98 : decode cX4_isMet 98 = .ok (.istore 6, 2) := by decide +kernel
theorem dX4_isMet_100 : decode cX4_isMet 100 = .ok (.iload 6, 2) := by decide +kernel
theorem dX4_isMet_102 : decode cX4_isMet 102 = .ok (.ifCond .eq 26, 3) := by decide +kernel
theorem dX4_isMet_105 : decode cX4_isMet 105 = .ok (.aload_n 0, 1) := by decide +kernel
theorem dX4_isMet_106 : decode cX4_isMet 106 = .ok (.iload_n 1, 1) := by decide +kernel
theorem dX4_isMet_107 : decode cX4_isMet 107 = .ok (.iload_n 2, 1) := by decide +kernel
theorem dX4_isMet_108 : decode cX4_isMet 108 = .ok (.iload_n 3, 1) := by decide +kernel
theorem dX4_isMet_109 : decode cX4_isMet 109 = .ok (.invokevirtual 142, 3) := by decide +kernel
theorem dX4_isMet_112 : decode cX4_isMet 112 = .ok (.iload_n 3, 1) := by decide +kernel
theorem dX4_isMet_113 : decode cX4_isMet 113 = .ok (.i2l, 1) := by decide +kernel
theorem dX4_isMet_114 : decode cX4_isMet 114 = .ok (.aload_n 0, 1) := by decide +kernel
theorem dX4_isMet_115 : decode cX4_isMet 115 = .ok (.iload_n 1, 1) := by decide +kernel
theorem dX4_isMet_116 : decode cX4_isMet 116 = .ok (.invokevirtual 146, 3) := by decide +kernel
theorem dX4_isMet_119 : decode cX4_isMet 119 = .ok (.lmul, 1) := by decide +kernel
theorem dX4_isMet_120 : decode cX4_isMet 120 = .ok (.lcmp, 1) := by decide +kernel
theorem dX4_isMet_121 : decode cX4_isMet 121 = .ok (.ifCond .le 7, 3) := by decide +kernel
theorem dX4_isMet_124 : decode cX4_isMet 124 = .ok (.iconst 1, 1) := by decide +kernel
theorem dX4_isMet_125 : decode cX4_isMet 125 = .ok (.goto 4, 3) := by decide +kernel
theorem dX4_isMet_128 : decode cX4_isMet 128 = .ok (.iconst 0, 1) := by decide +kernel
theorem dX4_isMet_129 : decode cX4_isMet 129 = .ok (.ireturn, 1) := by decide +kernel
set_option maxRecDepth 20000 in
theorem ggX4_above_X4_isIn : GoodIn wsX4_above wsX4_isIn := goodIn_r _ [5] (by decide +kernel) (by decide +kernel)
set_option maxRecDepth 20000 in
theorem gX4_above_X4_isIn : GoodIn wsX4_above (va_wsS RX4 65 yX4_isIn wsX4_isIn) := goodIn_app (goodIn_of _ (by decide +kernel)) ggX4_above_X4_isIn
set_option maxRecDepth 20000 in
theorem ggX4_above_X4_refused : GoodIn wsX4_above wsX4_refused := goodIn_r _ [9, 10, 29, 30, 31, 32, 33, 34, 35, 36, 37, 38, 39, 40, 41, 42, 43, 44] (by decide +kernel) (by decide +kernel)
set_option maxRecDepth 20000 in
theorem gX4_above_X4_refused : GoodIn wsX4_above (wsV RX4 69 RX4 yX4_refused wsX4_refused) := goodIn_app (goodIn_of _ (by decide +kernel)) ggX4_above_X4_refused
set_option maxRecDepth 20000 in
theorem ggX4_above_X4_isMet : GoodIn wsX4_above wsX4_isMet := goodIn_r _ [14, 15, 16, 17, 18, 4, 19, 20, 21, 22, 23, 24, 25, 26, 27, 28, 29, 30, 31, 32, 33, 34, 35, 36, 37, 38, 39, 40, 41, 42, 43, 44] (by decide +kernel) (by decide +kernel)
set_option maxRecDepth 20000 in
theorem gX4_above_X4_isMet : GoodIn wsX4_above (wsV RX4 150 RX4 yX4_isMet wsX4_isMet) := goodIn_app (goodIn_of _ (by decide +kernel)) ggX4_above_X4_isMet
set_option maxRecDepth 20000 in
theorem ggX4_above_X4_height : GoodIn wsX4_above wsX4_height := goodIn_r _ [19, 15, 20, 21, 22, 23, 4, 24, 29, 30, 31, 32, 33, 34, 35, 36, 37, 38, 39, 40, 41, 42, 43, 44] (by decide +kernel) (by decide +kernel)
set_option maxRecDepth 20000 in
theorem gX4_above_X4_height : GoodIn wsX4_above (wsV RX4 142 RX4 yX4_height wsX4_height) := goodIn_app (goodIn_of _ (by decide +kernel)) ggX4_above_X4_height
set_option maxRecDepth 20000 in
theorem ggX4_above_X4_width : GoodIn wsX4_above wsX4_width := goodIn_r _ [28, 15, 29, 30, 31, 32, 33, 34, 35, 36, 37, 38, 39, 40, 41, 42, 43, 44] (by decide +kernel) (by decide +kernel)
set_option maxRecDepth 20000 in
theorem gX4_above_X4_width : GoodIn wsX4_above (wsV RX4 146 RX4 yX4_width wsX4_width) := goodIn_app (goodIn_of _ (by decide +kernel)) ggX4_above_X4_width
theorem dX4_above_0 : decode cX4_above 0 = .ok (.aload_n 0, 1) := by decide +kernel
theorem dX4_above_1 : decode cX4_above 1 = .ok (.iload_n 1, 1) := by decide +kernel
theorem dX4_above_2 : decode cX4_above 2 = .ok (.invokestatic 65, 3) := by decide +kernel
theorem dX4_above_5 : decode cX4_above 5 = .ok (.ifCond .eq 14, 3) := by decide +kernel
theorem dX4_above_8 : decode cX4_above 8 = .ok (.iload_n 2, 1) := by decide +kernel
theorem dX4_above_9 : decode cX4_above 9 = .ok (.invokestatic 65, 3) := by decide +kernel
theorem dX4_above_12 : decode cX4_above 12 = .ok (.ifCond .eq 7, 3) := by decide +kernel
theorem dX4_above_15 : decode cX4_above 15 = .ok (.iconst 0, 1) := by decide +kernel
theorem dX4_above_16 : decode cX4_above 16 = .ok (.goto 4, 3) := by decide +kernel
theorem dX4_above_19 : decode cX4_above 19 = .ok (.iconst 1, 1) := by decide +kernel
theorem dX4_above_20 : decode cX4_above 20 = .ok (.invokevirtual 69, 3) := by decide +kernel
theorem dX4_above_23 : decode cX4_above 23 = .ok (.ifCond .eq 5, 3) := by decide +kernel
theorem dX4_above_26 : decode cX4_above 26 = .ok (.iconst 0, 1) := by decide +kernel
theorem dX4_above_27 : decode cX4_above 27 = .ok (.ireturn, 1) := by decide +kernel
theorem dX4_above_28 : decode cX4_above 28 = .ok (.iconst (-1), 1) := by decide +kernel
theorem dX4_above_29 : decode cX4_above 29 = .ok (.istore_n 3, 1) := by decide +kernel
theorem dX4_above_30 : decode cX4_above 30 = .ok (.iconst 0, 1) := by decide +kernel
theorem dX4_above_31 : decode cX4_above 31 = .ok (.istore 4, 2) := by decide +kernel
theorem dX4_above_33 : decode cX4_above 33 = .ok (.iload 4, 2) := by decide +kernel
theorem dX4_above_35 : decode cX4_above 35 = .ok (.bipush 60, 2) := by decide +kernel
theorem dX4_above_37 : decode cX4_above 37 = .ok (.if_icmp .ge 85, 3) := by decide +kernel
theorem dX4_above_40 : decode cX4_above 40 = .ok (.aload_n 0, 1) := by decide +kernel
theorem dX4_above_41 : decode cX4_above 41 = .ok (.getfield 7, 3) := by decide +kernel
theorem dX4_above_44 : decode cX4_above 44 = .ok (.iload 4, 2) := by decide +kernel
theorem dX4_above_46 : decode cX4_above 46 = .ok (.baload, 1) := by decide +kernel
theorem dX4_above_47 : decode cX4_above 47 = .ok (.ifCond .eq 69, 3) := by decide +kernel
theorem dX4_above_50 : decode cX4_above 50 = .ok (.aload_n 0, 1) := by decide +kernel
theorem dX4_above_51 : decode cX4_above 51 = .ok (.iload 4, 2) := by decide +kernel
theorem dX4_above_53 : decode cX4_above 53 = .ok (.iload_n 1, 1) := by decide +kernel
theorem dX4_above_54 : decode cX4_above 54 = .ok (.iload_n 2, 1) := by decide +kernel
theorem dX4_above_55 : decode cX4_above 55 = .ok (.invokevirtual 150, 3) := by decide +kernel
theorem dX4_above_58 : decode cX4_above 58 = .ok (.ifCond .eq 58, 3) := by decide +kernel
theorem dX4_above_61 : decode cX4_above 61 = .ok (.iload_n 3, 1) := by decide +kernel
theorem dX4_above_62 : decode cX4_above 62 = .ok (.ifCond .lt 35, 3) := by decide +kernel
theorem dX4_above_65 : decode cX4_above 65 = .ok (.aload_n 0, 1) := by decide +kernel
theorem dX4_above_66 : decode cX4_above 66 = .ok (.iload 4, 2) := by decide +kernel
theorem dX4_above_68 : decode cX4_above 68 = .ok (.iload_n 1, 1) := by decide +kernel
theorem dX4_above_69 : decode cX4_above 69 = .ok (.iload_n 2, 1) := by decide +kernel
theorem dX4_above_70 : decode cX4_above 70 = .ok (.invokevirtual 142, 3) := by decide +kernel
theorem dX4_above_73 : decode cX4_above 73 = .ok (.aload_n 0, 1) := by decide +kernel
theorem dX4_above_74 : decode cX4_above 74 = .ok (.iload_n 3, 1) := by decide +kernel
theorem dX4_above_75 : decode cX4_above 75 = .ok (.invokevirtual 146, 3) := by decide +kernel
theorem dX4_above_78 : decode cX4_above 78 = .ok (.lmul, 1) := by decide +kernel
theorem dX4_above_79 : decode cX4_above 79 = .ok (.aload_n 0, 1) := by decide +kernel
theorem dX4_above_80 : decode cX4_above 80 = .ok (.iload_n 3, 1) := by decide +kernel
theorem dX4_above_81 : decode cX4_above 81 = .ok (.iload_n 1, 1) := by decide +kernel
theorem dX4_above_82 : decode cX4_above 82 = .ok (.iload_n 2, 1) := by decide +kernel
theorem dX4_above_83 : decode cX4_above 83 = .ok (.invokevirtual 142, 3) := by decide +kernel
theorem dX4_above_86 : decode cX4_above 86 = .ok (.aload_n 0, 1) := by decide +kernel
theorem dX4_above_87 : decode cX4_above 87 = .ok (.iload 4, 2) := by decide +kernel
theorem dX4_above_89 : decode cX4_above 89 = .ok (.invokevirtual 146, 3) := by decide +kernel
theorem dX4_above_92 : decode cX4_above 92 = .ok (.lmul, 1) := by decide +kernel
theorem dX4_above_93 : decode cX4_above 93 = .ok (.lcmp, 1) := by decide +kernel
theorem dX4_above_94 : decode cX4_above 94 = .ok (.ifCond .ge 7, 3) := by decide +kernel
theorem dX4_above_97 : decode cX4_above 97 = .ok (.iconst 1, 1) := by decide +kernel
theorem dX4_above_98 : decode cX4_above 98 = .ok (.goto 4, 3) := by decide +kernel
theorem dX4_above_101 : decode cX4_above 101 = .ok (.iconst 0, 1) := by decide +kernel
theorem dX4_above_102 : decode cX4_above 102 = .ok (.istore 5, 2) := by decide +kernel
theorem dX4_above_104 : decode cX4_above 104 = .ok (.iload 5, 2) := by decide +kernel
theorem dX4_above_106 : decode cX4_above 106 = .ok (.ifCond .eq 8, 3) := by decide +kernel
theorem dX4_above_109 : decode cX4_above 109 = .ok (.iload 4, 2) := by decide +kernel
theorem dX4_above_111 : decode cX4_above 111 = .ok (.goto 4, 3) := by decide +kernel
theorem dX4_above_114 : decode cX4_above 114 = .ok (.iload_n 3, 1) := by decide +kernel
theorem dX4_above_115 : decode cX4_above 115 = .ok (.istore_n 3, 1) := by decide +kernel
theorem dX4_above_116 : decode cX4_above 116 = .ok (.iinc 4 1, 3) := by decide +kernel
theorem dX4_above_119 : decode cX4_above 119 = .ok (.goto (-86), 3) := by decide +kernel
theorem dX4_above_122 : decode cX4_above 122 = .ok (.iload_n 3, 1) := by decide +kernel
theorem dX4_above_123 : decode cX4_above 123 = .ok (.ireturn, 1) := by decide +kernel
set_option maxRecDepth 20000 in
theorem ggX4_across_X4_isFace : GoodIn wsX4_across wsX4_isFace := goodIn_r _ [8, 1, 9, 10, 11, 7, 12, 13, 14, 15, 16, 17, 3, 18, 19, 20, 21, 22, 23, 24, 25, 26, 27, 28, 29, 30, 31, 32, 33, 34, 35, 36, 37, 38, 39, 40, 41, 42, 43, 44, 45, 46, 47, 48, 49, 50, 51, 52, 53, 54, 55, 56, 57, 58, 59, 60, 61, 62, 63, 64, 65, 66, 67, 68, 69, 79, 80, 81, 82, 83, 84, 85, 86, 87, 88, 89, 90, 91, 92, 93, 94] (by decide +kernel) (by decide +kernel)
set_option maxRecDepth 20000 in
theorem gX4_across_X4_isFace : GoodIn wsX4_across (wsV RX4 137 RX4 yX4_isFace wsX4_isFace) := goodIn_app (goodIn_of _ (by decide +kernel)) ggX4_across_X4_isFace
set_option maxRecDepth 20000 in
theorem ggX4_across_X4_refused : GoodIn wsX4_across wsX4_refused := goodIn_r _ [73, 74, 79, 80, 81, 82, 83, 84, 85, 86, 87, 88, 89, 90, 91, 92, 93, 94] (by decide +kernel) (by decide +kernel)
set_option maxRecDepth 20000 in
theorem gX4_across_X4_refused : GoodIn wsX4_across (wsV RX4 69 RX4 yX4_refused wsX4_refused) := goodIn_app (goodIn_of _ (by decide +kernel)) ggX4_across_X4_refused
set_option maxRecDepth 20000 in
theorem ggX4_across_X4_left : GoodIn wsX4_across wsX4_left := goodIn_r _ [78, 55, 17, 79, 80, 81, 82, 83, 84, 85, 86, 87, 88, 89, 90, 91, 92, 93, 94] (by decide +kernel) (by decide +kernel)
set_option maxRecDepth 20000 in
theorem gX4_across_X4_left : GoodIn wsX4_across (wsV RX4 128 RX4 yX4_left wsX4_left) := goodIn_app (goodIn_of _ (by decide +kernel)) ggX4_across_X4_left
set_option maxRecDepth 20000 in
theorem ggX4_across_X4_back : GoodIn wsX4_across wsX4_back := goodIn_r _ [27] (by decide +kernel) (by decide +kernel)
set_option maxRecDepth 20000 in
theorem gX4_across_X4_back : GoodIn wsX4_across (va_wsS RX4 80 yX4_back wsX4_back) := goodIn_app (goodIn_of _ (by decide +kernel)) ggX4_across_X4_back
theorem dX4_across_0 : decode cX4_across 0 = .ok (.aload_n 0, 1) := by decide +kernel
theorem dX4_across_1 : decode cX4_across 1 = .ok (.aload_n 0, 1) := by decide +kernel
theorem dX4_across_2 : decode cX4_across 2 = .ok (.iload_n 1, 1) := by decide +kernel
theorem dX4_across_3 : decode cX4_across 3 = .ok (.invokevirtual 137, 3) := by decide +kernel
theorem dX4_across_6 : decode cX4_across 6 = .ok (.ifCond .eq 15, 3) := by decide +kernel
theorem dX4_across_9 : decode cX4_across 9 = .ok (.aload_n 0, 1) := by decide +kernel
theorem dX4_across_10 : decode cX4_across 10 = .ok (.iload_n 2, 1) := by decide +kernel
theorem dX4_across_11 : decode cX4_across 11 = .ok (.invokevirtual 137, 3) := by decide +kernel
theorem dX4_across_14 : decode cX4_across 14 = .ok (.ifCond .eq 7, 3) := by decide +kernel
theorem dX4_across_17 : decode cX4_across 17 = .ok (.iconst 0, 1) := by decide +kernel
theorem dX4_across_18 : decode cX4_across 18 = .ok (.goto 4, 3) := by decide +kernel
theorem dX4_across_21 : decode cX4_across 21 = .ok (.iconst 1, 1) := by decide +kernel
theorem dX4_across_22 : decode cX4_across 22 = .ok (.invokevirtual 69, 3) := by decide +kernel
theorem dX4_across_25 : decode cX4_across 25 = .ok (.ifCond .eq 5, 3) := by decide +kernel
theorem dX4_across_28 : decode cX4_across 28 = .ok (.iconst 0, 1) := by decide +kernel
theorem dX4_across_29 : decode cX4_across 29 = .ok (.ireturn, 1) := by decide +kernel
theorem dX4_across_30 : decode cX4_across 30 = .ok (.iconst 0, 1) := by decide +kernel
theorem dX4_across_31 : decode cX4_across 31 = .ok (.istore_n 3, 1) := by decide +kernel
theorem dX4_across_32 : decode cX4_across 32 = .ok (.iload_n 3, 1) := by decide +kernel
theorem dX4_across_33 : decode cX4_across 33 = .ok (.aload_n 0, 1) := by decide +kernel
theorem dX4_across_34 : decode cX4_across 34 = .ok (.getfield 118, 3) := by decide +kernel
theorem dX4_across_37 : decode cX4_across 37 = .ok (.if_icmp .ge 27, 3) := by decide +kernel
theorem dX4_across_40 : decode cX4_across 40 = .ok (.aload_n 0, 1) := by decide +kernel
theorem dX4_across_41 : decode cX4_across 41 = .ok (.getfield 42, 3) := by decide +kernel
theorem dX4_across_44 : decode cX4_across 44 = .ok (.iload_n 3, 1) := by decide +kernel
theorem dX4_across_45 : decode cX4_across 45 = .ok (.iload_n 3, 1) := by decide +kernel
theorem dX4_across_46 : decode cX4_across 46 = .ok (.iload_n 1, 1) := by decide +kernel
theorem dX4_across_47 : decode cX4_across 47 = .ok (.if_icmp .ne 7, 3) := by decide +kernel
theorem dX4_across_50 : decode cX4_across 50 = .ok (.iconst 0, 1) := by decide +kernel
theorem dX4_across_51 : decode cX4_across 51 = .ok (.goto 6, 3) := by decide +kernel
theorem dX4_across_54 : decode cX4_across 54 = .ok (.sipush 1000, 3) := by decide +kernel
theorem dX4_across_57 : decode cX4_across 57 = .ok (.iastore, 1) := by decide +kernel
theorem dX4_across_58 : decode cX4_across 58 = .ok (.iinc 3 1, 3) := by decide +kernel
theorem dX4_across_61 : decode cX4_across 61 = .ok (.goto (-29), 3) := by decide +kernel
theorem dX4_across_64 : decode cX4_across 64 = .ok (.iconst 1, 1) := by decide +kernel
theorem dX4_across_65 : decode cX4_across 65 = .ok (.istore_n 3, 1) := by decide +kernel
theorem dX4_across_66 : decode cX4_across 66 = .ok (.iload_n 3, 1) := by decide +kernel
theorem dX4_across_67 : decode cX4_across 67 = .ok (.ifCond .eq 95, 3) := by decide +kernel
theorem dX4_across_70 : decode cX4_across 70 = .ok (.iconst 0, 1) := by decide +kernel
theorem dX4_across_71 : decode cX4_across 71 = .ok (.istore_n 3, 1) := by decide +kernel
theorem dX4_across_72 : decode cX4_across 72 = .ok (.iconst 0, 1) := by decide +kernel
theorem dX4_across_73 : decode cX4_across 73 = .ok (.istore 4, 2) := by decide +kernel
theorem dX4_across_75 : decode cX4_across 75 = .ok (.iload 4, 2) := by decide +kernel
theorem dX4_across_77 : decode cX4_across 77 = .ok (.bipush 120, 2) := by decide +kernel
theorem dX4_across_79 : decode cX4_across 79 = .ok (.if_icmp .ge 80, 3) := by decide +kernel
theorem dX4_across_82 : decode cX4_across 82 = .ok (.aload_n 0, 1) := by decide +kernel
theorem dX4_across_83 : decode cX4_across 83 = .ok (.getfield 7, 3) := by decide +kernel
theorem dX4_across_86 : decode cX4_across 86 = .ok (.iload 4, 2) := by decide +kernel
theorem dX4_across_88 : decode cX4_across 88 = .ok (.iconst 2, 1) := by decide +kernel
theorem dX4_across_89 : decode cX4_across 89 = .ok (.idiv, 1) := by decide +kernel
theorem dX4_across_90 : decode cX4_across 90 = .ok (.baload, 1) := by decide +kernel
theorem dX4_across_91 : decode cX4_across 91 = .ok (.ifCond .eq 62, 3) := by decide +kernel
theorem dX4_across_94 : decode cX4_across 94 = .ok (.aload_n 0, 1) := by decide +kernel
theorem dX4_across_95 : decode cX4_across 95 = .ok (.getfield 42, 3) := by decide +kernel
theorem dX4_across_98 : decode cX4_across 98 = .ok (.aload_n 0, 1) := by decide +kernel
theorem dX4_across_99 : decode cX4_across 99 = .ok (.iload 4, 2) := by decide +kernel
theorem dX4_across_101 : decode cX4_across 101 = .ok (.invokevirtual 128, 3) := by decide +kernel
theorem dX4_across_104 : decode cX4_across 104 = .ok (.iaload, 1) := by decide +kernel
theorem dX4_across_105 : decode cX4_across 105 = .ok (.iconst 1, 1) := by decide +kernel
theorem dX4_across_106 : decode cX4_across 106 = .ok (.iadd, 1) := by decide +kernel
theorem dX4_across_107 : decode cX4_across 107 = .ok (.aload_n 0, 1) := by decide +kernel
theorem dX4_across_108 : decode cX4_across 108 = .ok (.getfield 42, 3) := by decide +kernel
theorem dX4_across_111 : decode cX4_across 111 = .ok (.aload_n 0, 1) := by decide +kernel
theorem dX4_across_112 : decode cX4_across 112 = .ok (.iload 4, 2) := by decide +kernel
theorem dX4_across_114 : decode cX4_across 114 = .ok (.invokestatic 80, 3) := by decide +kernel
theorem dX4_across_117 : decode cX4_across 117 = .ok (.invokevirtual 128, 3) := by decide +kernel
theorem dX4_across_120 : decode cX4_across 120 = .ok (.iaload, 1) := by decide +kernel
theorem dX4_across_121 : decode cX4_across 121 = .ok (.if_icmp .ge 32, 3) := by decide +kernel
theorem dX4_across_124 : decode cX4_across 124 = .ok (.aload_n 0, 1) := by decide +kernel
theorem dX4_across_125 : decode cX4_across 125 = .ok (.getfield 42, 3) := by decide +kernel
theorem dX4_across_128 : decode cX4_across 128 = .ok (.aload_n 0, 1) := by decide +kernel
theorem dX4_across_129 : decode cX4_across 129 = .ok (.iload 4, 2) := by decide +kernel
theorem dX4_across_131 : decode cX4_across 131 = .ok (.invokestatic 80, 3) := by decide +kernel
theorem dX4_across_134 : decode cX4_across 134 = .ok (.invokevirtual 128, 3) := by decide +kernel
theorem dX4_across_137 : decode cX4_across 137 = .ok (.aload_n 0, 1) := by decide +kernel
theorem dX4_across_138 : decode cX4_across 138 = .ok (.getfield 42, 3) := by decide +kernel
theorem dX4_across_141 : decode cX4_across 141 = .ok (.aload_n 0, 1) := by decide +kernel
theorem dX4_across_142 : decode cX4_across 142 = .ok (.iload 4, 2) := by decide +kernel
theorem dX4_across_144 : decode cX4_across 144 = .ok (.invokevirtual 128, 3) := by decide +kernel
theorem dX4_across_147 : decode cX4_across 147 = .ok (.iaload, 1) := by decide +kernel
theorem dX4_across_148 : decode cX4_across 148 = .ok (.iconst 1, 1) := by decide +kernel
theorem dX4_across_149 : decode cX4_across 149 = .ok (.iadd, 1) := by decide +kernel
theorem dX4_across_150 : decode cX4_across 150 = .ok (.iastore, 1) := by decide +kernel
theorem dX4_across_151 : decode cX4_across 151 = .ok (.iconst 1, 1) := by decide +kernel
theorem dX4_across_152 : decode cX4_across 152 = .ok (.istore_n 3, 1) := by decide +kernel
theorem dX4_across_153 : decode cX4_across 153 = .ok (.iinc 4 1, 3) := by decide +kernel
theorem dX4_across_156 : decode cX4_across 156 = .ok (.goto (-81), 3) := by decide +kernel
theorem dX4_across_159 : decode cX4_across 159 = .ok (.goto (-93), 3) := by decide +kernel
theorem dX4_across_162 : decode cX4_across 162 = .ok (.aload_n 0, 1) := by decide +kernel
theorem dX4_across_163 : decode cX4_across 163 = .ok (.getfield 42, 3) := by decide +kernel
theorem dX4_across_166 : decode cX4_across 166 = .ok (.iload_n 2, 1) := by decide +kernel
theorem dX4_across_167 : decode cX4_across 167 = .ok (.iaload, 1) := by decide +kernel
theorem dX4_across_168 : decode cX4_across 168 = .ok (.ireturn, 1) := by decide +kernel
