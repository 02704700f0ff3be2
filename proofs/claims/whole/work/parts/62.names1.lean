theorem dX7_degree_7 : decode cX7_degree 7 = .ok (.ifCond .eq 7, 3) := by decide +kernel
theorem dX7_degree_10 : decode cX7_degree 10 = .ok (.iload_n 2, 1) := by decide +kernel
theorem dX7_degree_11 : decode cX7_degree 11 = .ok (.goto 12, 3) := by decide +kernel
theorem dX7_degree_14 : decode cX7_degree 14 = .ok (.aload_n 0, 1) := by decide +kernel
theorem dX7_degree_15 : decode cX7_degree 15 = .ok (.getfield 18, 3) := by decide +kernel
theorem dX7_degree_18 : decode cX7_degree 18 = .ok (.iload_n 1, 1) := by decide +kernel
theorem dX7_degree_19 : decode cX7_degree 19 = .ok (.aaload, 1) := by decide +kernel
theorem dX7_degree_20 : decode cX7_degree 20 = .ok (.getfield 97, 3) := by decide +kernel
theorem dX7_degree_23 : decode cX7_degree 23 = .ok (.ireturn, 1) := by decide +kernel
set_option maxRecDepth 20000 in
theorem ggX7_told_X7_within : GoodIn wsX7_told wsX7_within := goodIn_r _ [5] rfl (by decide +kernel)
set_option maxRecDepth 20000 in
theorem gX7_told_X7_within : GoodIn wsX7_told (va_wsS RX7 54 yX7_within wsX7_within) := goodIn_app (goodIn_of _ (by decide +kernel)) ggX7_told_X7_within
set_option maxRecDepth 20000 in
theorem ggX7_told_X7_missing : GoodIn wsX7_told wsX7_missing := goodIn_r _ [9, 1, 10, 11, 12, 4, 13, 2, 3, 5, 20, 21, 22, 23, 24, 25, 26, 27, 28, 29, 30, 31, 32, 33, 34, 35] rfl (by decide +kernel)
set_option maxRecDepth 20000 in
theorem gX7_told_X7_missing : GoodIn wsX7_told (wsV RX7 87 RX7 yX7_missing wsX7_missing) := goodIn_app (goodIn_of _ (by decide +kernel)) ggX7_told_X7_missing
set_option maxRecDepth 20000 in
theorem ggX7_told_X0_number : GoodIn wsX7_told wsX0_number := goodIn_r _ [18, 19, 28, 29, 30, 31, 32, 33, 34, 35] rfl (by decide +kernel)
set_option maxRecDepth 20000 in
theorem gX7_told_X0_number : GoodIn wsX7_told (wsV RX7 100 RX0 yX0_number wsX0_number) := goodIn_app (goodIn_of _ (by decide +kernel)) ggX7_told_X0_number
theorem dX7_told_0 : decode cX7_told 0 = .ok (.iload_n 2, 1) := by decide +kernel
theorem dX7_told_1 : decode cX7_told 1 = .ok (.iconst 0, 1) := by decide +kernel
theorem dX7_told_2 : decode cX7_told 2 = .ok (.iconst 2, 1) := by decide +kernel
theorem dX7_told_3 : decode cX7_told 3 = .ok (.invokestatic 54, 3) := by decide +kernel
theorem dX7_told_6 : decode cX7_told 6 = .ok (.ifCond .eq 12, 3) := by decide +kernel
theorem dX7_told_9 : decode cX7_told 9 = .ok (.iload_n 3, 1) := by decide +kernel
theorem dX7_told_10 : decode cX7_told 10 = .ok (.iconst 0, 1) := by decide +kernel
theorem dX7_told_11 : decode cX7_told 11 = .ok (.iconst 3, 1) := by decide +kernel
theorem dX7_told_12 : decode cX7_told 12 = .ok (.invokestatic 54, 3) := by decide +kernel
theorem dX7_told_15 : decode cX7_told 15 = .ok (.ifCond .ne 7, 3) := by decide +kernel
theorem dX7_told_18 : decode cX7_told 18 = .ok (.sipush (-1001), 3) := by decide +kernel
theorem dX7_told_21 : decode cX7_told 21 = .ok (.ireturn, 1) := by decide +kernel
theorem dX7_told_22 : decode cX7_told 22 = .ok (.aload_n 0, 1) := by decide +kernel
theorem dX7_told_23 : decode cX7_told 23 = .ok (.iload_n 1, 1) := by decide +kernel
theorem dX7_told_24 : decode cX7_told 24 = .ok (.invokevirtual 87, 3) := by decide +kernel
theorem dX7_told_27 : decode cX7_told 27 = .ok (.istore 4, 2) := by decide +kernel
theorem dX7_told_29 : decode cX7_told 29 = .ok (.iload 4, 2) := by decide +kernel
theorem dX7_told_31 : decode cX7_told 31 = .ok (.ifCond .eq 12, 3) := by decide +kernel
theorem dX7_told_34 : decode cX7_told 34 = .ok (.iload 4, 2) := by decide +kernel
theorem dX7_told_36 : decode cX7_told 36 = .ok (.sipush 1000, 3) := by decide +kernel
theorem dX7_told_39 : decode cX7_told 39 = .ok (.isub, 1) := by decide +kernel
theorem dX7_told_40 : decode cX7_told 40 = .ok (.goto 15, 3) := by decide +kernel
theorem dX7_told_43 : decode cX7_told 43 = .ok (.aload_n 0, 1) := by decide +kernel
theorem dX7_told_44 : decode cX7_told 44 = .ok (.getfield 18, 3) := by decide +kernel
theorem dX7_told_47 : decode cX7_told 47 = .ok (.iload_n 1, 1) := by decide +kernel
theorem dX7_told_48 : decode cX7_told 48 = .ok (.aaload, 1) := by decide +kernel
theorem dX7_told_49 : decode cX7_told 49 = .ok (.iload_n 2, 1) := by decide +kernel
theorem dX7_told_50 : decode cX7_told 50 = .ok (.iload_n 3, 1) := by decide +kernel
theorem dX7_told_51 : decode cX7_told 51 = .ok (.invokevirtual 100, 3) := by decide +kernel
theorem dX7_told_54 : decode cX7_told 54 = .ok (.l2i, 1) := by decide +kernel
theorem dX7_told_55 : decode cX7_told 55 = .ok (.ireturn, 1) := by decide +kernel
set_option maxRecDepth 20000 in
theorem ggX7_at_X7_isLetter : GoodIn wsX7_at wsX7_isLetter := goodIn_r _ [8, 9, 10, 7, 11] rfl (by decide +kernel)
set_option maxRecDepth 20000 in
theorem gX7_at_X7_isLetter : GoodIn wsX7_at (va_wsS RX7 104 yX7_isLetter wsX7_isLetter) := goodIn_app (goodIn_of _ (by decide +kernel)) ggX7_at_X7_isLetter
set_option maxRecDepth 20000 in
theorem ggX7_at_X7_within : GoodIn wsX7_at wsX7_within := goodIn_r _ [11] rfl (by decide +kernel)
set_option maxRecDepth 20000 in
theorem gX7_at_X7_within : GoodIn wsX7_at (va_wsS RX7 54 yX7_within wsX7_within) := goodIn_app (goodIn_of _ (by decide +kernel)) ggX7_at_X7_within
set_option maxRecDepth 20000 in
theorem ggX7_at_X7_missing : GoodIn wsX7_at wsX7_missing := goodIn_r _ [15, 3, 16, 17, 18, 7, 19, 9, 10, 11, 38, 39, 40, 41, 42, 43, 44, 45, 46, 47, 48, 49, 50, 51, 52, 53] rfl (by decide +kernel)
set_option maxRecDepth 20000 in
theorem gX7_at_X7_missing : GoodIn wsX7_at (wsV RX7 87 RX7 yX7_missing wsX7_missing) := goodIn_app (goodIn_of _ (by decide +kernel)) ggX7_at_X7_missing
set_option maxRecDepth 20000 in
theorem ggX7_at_X0_value : GoodIn wsX7_at wsX0_value := goodIn_r _ [24, 25, 26, 27, 23, 28, 29, 46, 47, 48, 49, 50, 51, 52, 53] rfl (by decide +kernel)
set_option maxRecDepth 20000 in
theorem gX7_at_X0_value : GoodIn wsX7_at (wsV RX7 112 RX0 yX0_value wsX0_value) := goodIn_app (goodIn_of _ (by decide +kernel)) ggX7_at_X0_value
set_option maxRecDepth 20000 in
theorem ggX7_at_X6_divisor : GoodIn wsX7_at wsX6_divisor := goodIn_r _ [33, 34, 35, 36, 37] rfl (by decide +kernel)
set_option maxRecDepth 20000 in
theorem gX7_at_X6_divisor : GoodIn wsX7_at (va_wsS RX7 116 yX6_divisor wsX6_divisor) := goodIn_app (goodIn_of _ (by decide +kernel)) ggX7_at_X6_divisor
theorem dX7_at_0 : decode cX7_at 0 = .ok (.iload_n 2, 1) := by decide +kernel
theorem dX7_at_1 : decode cX7_at 1 = .ok (.iload_n 3, 1) := by decide +kernel
theorem dX7_at_2 : decode cX7_at 2 = .ok (.invokestatic 104, 3) := by decide +kernel
theorem dX7_at_5 : decode cX7_at 5 = .ok (.ifCond .eq 23, 3) := by decide +kernel
theorem dX7_at_8 : decode cX7_at 8 = .ok (.iload 4, 2) := by decide +kernel
theorem dX7_at_10 : decode cX7_at 10 = .ok (.iconst 0, 1) := by decide +kernel
theorem dX7_at_11 : decode cX7_at 11 = .ok (.iconst 1, 1) := by decide +kernel
theorem dX7_at_12 : decode cX7_at 12 = .ok (.invokestatic 54, 3) := by decide +kernel
theorem dX7_at_15 : decode cX7_at 15 = .ok (.ifCond .eq 13, 3) := by decide +kernel
theorem dX7_at_18 : decode cX7_at 18 = .ok (.iload 5, 2) := by decide +kernel
theorem dX7_at_20 : decode cX7_at 20 = .ok (.iconst 0, 1) := by decide +kernel
theorem dX7_at_21 : decode cX7_at 21 = .ok (.iconst 1, 1) := by decide +kernel
theorem dX7_at_22 : decode cX7_at 22 = .ok (.invokestatic 54, 3) := by decide +kernel
theorem dX7_at_25 : decode cX7_at 25 = .ok (.ifCond .ne 7, 3) := by decide +kernel
theorem dX7_at_28 : decode cX7_at 28 = .ok (.ldc2_w 108, 3) := by decide +kernel
theorem dX7_at_31 : decode cX7_at 31 = .ok (.lreturn, 1) := by decide +kernel
theorem dX7_at_32 : decode cX7_at 32 = .ok (.aload_n 0, 1) := by decide +kernel
theorem dX7_at_33 : decode cX7_at 33 = .ok (.iload_n 1, 1) := by decide +kernel
theorem dX7_at_34 : decode cX7_at 34 = .ok (.invokevirtual 87, 3) := by decide +kernel
theorem dX7_at_37 : decode cX7_at 37 = .ok (.istore 6, 2) := by decide +kernel
theorem dX7_at_39 : decode cX7_at 39 = .ok (.iload 6, 2) := by decide +kernel
theorem dX7_at_41 : decode cX7_at 41 = .ok (.ifCond .eq 11, 3) := by decide +kernel
theorem dX7_at_44 : decode cX7_at 44 = .ok (.iload 6, 2) := by decide +kernel
theorem dX7_at_46 : decode cX7_at 46 = .ok (.i2l, 1) := by decide +kernel
theorem dX7_at_47 : decode cX7_at 47 = .ok (.ldc2_w 110, 3) := by decide +kernel
theorem dX7_at_50 : decode cX7_at 50 = .ok (.lsub, 1) := by decide +kernel
theorem dX7_at_51 : decode cX7_at 51 = .ok (.lreturn, 1) := by decide +kernel
theorem dX7_at_52 : decode cX7_at 52 = .ok (.aload_n 0, 1) := by decide +kernel
theorem dX7_at_53 : decode cX7_at 53 = .ok (.getfield 18, 3) := by decide +kernel
theorem dX7_at_56 : decode cX7_at 56 = .ok (.iload_n 1, 1) := by decide +kernel
theorem dX7_at_57 : decode cX7_at 57 = .ok (.aaload, 1) := by decide +kernel
theorem dX7_at_58 : decode cX7_at 58 = .ok (.iload 4, 2) := by decide +kernel
theorem dX7_at_60 : decode cX7_at 60 = .ok (.iload_n 2, 1) := by decide +kernel
theorem dX7_at_61 : decode cX7_at 61 = .ok (.i2l, 1) := by decide +kernel
theorem dX7_at_62 : decode cX7_at 62 = .ok (.iload_n 3, 1) := by decide +kernel
theorem dX7_at_63 : decode cX7_at 63 = .ok (.i2l, 1) := by decide +kernel
theorem dX7_at_64 : decode cX7_at 64 = .ok (.invokevirtual 112, 3) := by decide +kernel
theorem dX7_at_67 : decode cX7_at 67 = .ok (.lstore 7, 2) := by decide +kernel
theorem dX7_at_69 : decode cX7_at 69 = .ok (.aload_n 0, 1) := by decide +kernel
theorem dX7_at_70 : decode cX7_at 70 = .ok (.getfield 18, 3) := by decide +kernel
theorem dX7_at_73 : decode cX7_at 73 = .ok (.iload_n 1, 1) := by decide +kernel
theorem dX7_at_74 : decode cX7_at 74 = .ok (.aaload, 1) := by decide +kernel
theorem dX7_at_75 : decode cX7_at 75 = .ok (.iconst 2, 1) := by decide +kernel
theorem dX7_at_76 : decode cX7_at 76 = .ok (.iload_n 2, 1) := by decide +kernel
theorem dX7_at_77 : decode cX7_at 77 = .ok (.i2l, 1) := by decide +kernel
theorem dX7_at_78 : decode cX7_at 78 = .ok (.iload_n 3, 1) := by decide +kernel
theorem dX7_at_79 : decode cX7_at 79 = .ok (.i2l, 1) := by decide +kernel
theorem dX7_at_80 : decode cX7_at 80 = .ok (.invokevirtual 112, 3) := by decide +kernel
theorem dX7_at_83 : decode cX7_at 83 = .ok (.lstore 9, 2) := by decide +kernel
theorem dX7_at_85 : decode cX7_at 85 = .ok (.lload 7, 2) := by decide +kernel
theorem dX7_at_87 : decode cX7_at 87 = .ok (.lload 9, 2) := by decide +kernel
theorem dX7_at_89 : decode cX7_at 89 = .ok (.invokestatic 116, 3) := by decide +kernel
theorem dX7_at_92 : decode cX7_at 92 = .ok (.lstore 11, 2) := by decide +kernel
theorem dX7_at_94 : decode cX7_at 94 = .ok (.lload 9, 2) := by decide +kernel
theorem dX7_at_96 : decode cX7_at 96 = .ok (.lconst 0, 1) := by decide +kernel
theorem dX7_at_97 : decode cX7_at 97 = .ok (.lcmp, 1) := by decide +kernel
theorem dX7_at_98 : decode cX7_at 98 = .ok (.ifCond .eq 10, 3) := by decide +kernel
theorem dX7_at_101 : decode cX7_at 101 = .ok (.lload 11, 2) := by decide +kernel
theorem dX7_at_103 : decode cX7_at 103 = .ok (.lconst 0, 1) := by decide +kernel
theorem dX7_at_104 : decode cX7_at 104 = .ok (.lcmp, 1) := by decide +kernel
theorem dX7_at_105 : decode cX7_at 105 = .ok (.ifCond .ne 7, 3) := by decide +kernel
theorem dX7_at_108 : decode cX7_at 108 = .ok (.ldc2_w 122, 3) := by decide +kernel
theorem dX7_at_111 : decode cX7_at 111 = .ok (.lreturn, 1) := by decide +kernel
theorem dX7_at_112 : decode cX7_at 112 = .ok (.iload 5, 2) := by decide +kernel
theorem dX7_at_114 : decode cX7_at 114 = .ok (.ifCond .ne 8, 3) := by decide +kernel
theorem dX7_at_117 : decode cX7_at 117 = .ok (.lload 7, 2) := by decide +kernel
theorem dX7_at_119 : decode cX7_at 119 = .ok (.goto 5, 3) := by decide +kernel
theorem dX7_at_122 : decode cX7_at 122 = .ok (.lload 9, 2) := by decide +kernel
theorem dX7_at_124 : decode cX7_at 124 = .ok (.lload 11, 2) := by decide +kernel
theorem dX7_at_126 : decode cX7_at 126 = .ok (.ldiv, 1) := by decide +kernel
theorem dX7_at_127 : decode cX7_at 127 = .ok (.lstore 13, 2) := by decide +kernel
theorem dX7_at_129 : decode cX7_at 129 = .ok (.lload 9, 2) := by decide +kernel
theorem dX7_at_131 : decode cX7_at 131 = .ok (.lconst 0, 1) := by decide +kernel
theorem dX7_at_132 : decode cX7_at 132 = .ok (.lcmp, 1) := by decide +kernel
theorem dX7_at_133 : decode cX7_at 133 = .ok (.ifCond .ge 9, 3) := by decide +kernel
theorem dX7_at_136 : decode cX7_at 136 = .ok (.lload 13, 2) := by decide +kernel
theorem dX7_at_138 : decode cX7_at 138 = .ok (.lneg, 1) := by decide +kernel
theorem dX7_at_139 : decode cX7_at 139 = .ok (.goto 5, 3) := by decide +kernel
theorem dX7_at_142 : decode cX7_at 142 = .ok (.lload 13, 2) := by decide +kernel
theorem dX7_at_144 : decode cX7_at 144 = .ok (.lreturn, 1) := by decide +kernel
set_option maxRecDepth 20000 in
theorem ggX7_far_X7_within : GoodIn wsX7_far wsX7_within := goodIn_r _ [6] rfl (by decide +kernel)
set_option maxRecDepth 20000 in
theorem gX7_far_X7_within : GoodIn wsX7_far (va_wsS RX7 54 yX7_within wsX7_within) := goodIn_app (goodIn_of _ (by decide +kernel)) ggX7_far_X7_within
set_option maxRecDepth 20000 in
theorem ggX7_far_X7_missing : GoodIn wsX7_far wsX7_missing := goodIn_r _ [10, 1, 11, 12, 13, 5, 14, 3, 4, 6, 21, 22, 23, 24, 25, 26, 27, 28, 29, 30, 31, 32, 33, 34, 35, 36] rfl (by decide +kernel)
set_option maxRecDepth 20000 in
theorem gX7_far_X7_missing : GoodIn wsX7_far (wsV RX7 87 RX7 yX7_missing wsX7_missing) := goodIn_app (goodIn_of _ (by decide +kernel)) ggX7_far_X7_missing
set_option maxRecDepth 20000 in
theorem ggX7_far_X0_number : GoodIn wsX7_far wsX0_number := goodIn_r _ [19, 20, 29, 30, 31, 32, 33, 34, 35, 36] rfl (by decide +kernel)
set_option maxRecDepth 20000 in
theorem gX7_far_X0_number : GoodIn wsX7_far (wsV RX7 100 RX0 yX0_number wsX0_number) := goodIn_app (goodIn_of _ (by decide +kernel)) ggX7_far_X0_number
theorem dX7_far_0 : decode cX7_far 0 = .ok (.iload_n 2, 1) := by decide +kernel
theorem dX7_far_1 : decode cX7_far 1 = .ok (.iconst 0, 1) := by decide +kernel
theorem dX7_far_2 : decode cX7_far 2 = .ok (.iconst 2, 1) := by decide +kernel
theorem dX7_far_3 : decode cX7_far 3 = .ok (.invokestatic 54, 3) := by decide +kernel
theorem dX7_far_6 : decode cX7_far 6 = .ok (.ifCond .ne 7, 3) := by decide +kernel
theorem dX7_far_9 : decode cX7_far 9 = .ok (.sipush (-1001), 3) := by decide +kernel
theorem dX7_far_12 : decode cX7_far 12 = .ok (.ireturn, 1) := by decide +kernel
theorem dX7_far_13 : decode cX7_far 13 = .ok (.aload_n 0, 1) := by decide +kernel
theorem dX7_far_14 : decode cX7_far 14 = .ok (.iload_n 1, 1) := by decide +kernel
theorem dX7_far_15 : decode cX7_far 15 = .ok (.invokevirtual 87, 3) := by decide +kernel
theorem dX7_far_18 : decode cX7_far 18 = .ok (.istore_n 3, 1) := by decide +kernel
theorem dX7_far_19 : decode cX7_far 19 = .ok (.iload_n 3, 1) := by decide +kernel
theorem dX7_far_20 : decode cX7_far 20 = .ok (.ifCond .eq 11, 3) := by decide +kernel
theorem dX7_far_23 : decode cX7_far 23 = .ok (.iload_n 3, 1) := by decide +kernel
theorem dX7_far_24 : decode cX7_far 24 = .ok (.sipush 1000, 3) := by decide +kernel
theorem dX7_far_27 : decode cX7_far 27 = .ok (.isub, 1) := by decide +kernel
theorem dX7_far_28 : decode cX7_far 28 = .ok (.goto 23, 3) := by decide +kernel
theorem dX7_far_31 : decode cX7_far 31 = .ok (.aload_n 0, 1) := by decide +kernel
theorem dX7_far_32 : decode cX7_far 32 = .ok (.getfield 18, 3) := by decide +kernel
theorem dX7_far_35 : decode cX7_far 35 = .ok (.iload_n 1, 1) := by decide +kernel
theorem dX7_far_36 : decode cX7_far 36 = .ok (.aaload, 1) := by decide +kernel
theorem dX7_far_37 : decode cX7_far 37 = .ok (.iload_n 2, 1) := by decide +kernel
theorem dX7_far_38 : decode cX7_far 38 = .ok (.aload_n 0, 1) := by decide +kernel
theorem dX7_far_39 : decode cX7_far 39 = .ok (.getfield 18, 3) := by decide +kernel
theorem dX7_far_42 : decode cX7_far 42 = .ok (.iload_n 1, 1) := by decide +kernel
theorem dX7_far_43 : decode cX7_far 43 = .ok (.aaload, 1) := by decide +kernel
theorem dX7_far_44 : decode cX7_far 44 = .ok (.getfield 97, 3) := by decide +kernel
theorem dX7_far_47 : decode cX7_far 47 = .ok (.invokevirtual 100, 3) := by decide +kernel
theorem dX7_far_50 : decode cX7_far 50 = .ok (.l2i, 1) := by decide +kernel
theorem dX7_far_51 : decode cX7_far 51 = .ok (.ireturn, 1) := by decide +kernel
set_option maxRecDepth 20000 in
theorem ggX7_equation_X7_within : GoodIn wsX7_equation wsX7_within := goodIn_r _ [8] rfl (by decide +kernel)
set_option maxRecDepth 20000 in
theorem gX7_equation_X7_within : GoodIn wsX7_equation (va_wsS RX7 54 yX7_within wsX7_within) := goodIn_app (goodIn_of _ (by decide +kernel)) ggX7_equation_X7_within
set_option maxRecDepth 20000 in
theorem ggX7_equation_X7_pointless : GoodIn wsX7_equation wsX7_pointless := goodIn_r _ [12, 3, 13, 14, 15, 16, 7, 17, 18, 19, 20, 21, 5, 6, 8, 22, 23, 24, 25, 26, 27, 28, 29, 30, 31, 32, 33, 34, 35, 36, 37] rfl (by decide +kernel)
set_option maxRecDepth 20000 in
theorem gX7_equation_X7_pointless : GoodIn wsX7_equation (wsV RX7 126 RX7 yX7_pointless wsX7_pointless) := goodIn_app (goodIn_of _ (by decide +kernel)) ggX7_equation_X7_pointless
theorem dX7_equation_0 : decode cX7_equation 0 = .ok (.iload_n 2, 1) := by decide +kernel
theorem dX7_equation_1 : decode cX7_equation 1 = .ok (.iconst 0, 1) := by decide +kernel
theorem dX7_equation_2 : decode cX7_equation 2 = .ok (.bipush 9, 2) := by decide +kernel
theorem dX7_equation_4 : decode cX7_equation 4 = .ok (.invokestatic 54, 3) := by decide +kernel
theorem dX7_equation_7 : decode cX7_equation 7 = .ok (.ifCond .ne 7, 3) := by decide +kernel
theorem dX7_equation_10 : decode cX7_equation 10 = .ok (.ldc2_w 124, 3) := by decide +kernel
theorem dX7_equation_13 : decode cX7_equation 13 = .ok (.lreturn, 1) := by decide +kernel
theorem dX7_equation_14 : decode cX7_equation 14 = .ok (.aload_n 0, 1) := by decide +kernel
theorem dX7_equation_15 : decode cX7_equation 15 = .ok (.iload_n 1, 1) := by decide +kernel
theorem dX7_equation_16 : decode cX7_equation 16 = .ok (.invokevirtual 126, 3) := by decide +kernel
theorem dX7_equation_19 : decode cX7_equation 19 = .ok (.istore_n 3, 1) := by decide +kernel
theorem dX7_equation_20 : decode cX7_equation 20 = .ok (.iload_n 3, 1) := by decide +kernel
theorem dX7_equation_21 : decode cX7_equation 21 = .ok (.ifCond .eq 12, 3) := by decide +kernel
theorem dX7_equation_24 : decode cX7_equation 24 = .ok (.iload_n 3, 1) := by decide +kernel
theorem dX7_equation_25 : decode cX7_equation 25 = .ok (.i2l, 1) := by decide +kernel
theorem dX7_equation_26 : decode cX7_equation 26 = .ok (.ldc2_w 129, 3) := by decide +kernel
theorem dX7_equation_29 : decode cX7_equation 29 = .ok (.lsub, 1) := by decide +kernel
theorem dX7_equation_30 : decode cX7_equation 30 = .ok (.goto 14, 3) := by decide +kernel
theorem dX7_equation_33 : decode cX7_equation 33 = .ok (.aload_n 0, 1) := by decide +kernel
theorem dX7_equation_34 : decode cX7_equation 34 = .ok (.getfield 18, 3) := by decide +kernel
theorem dX7_equation_37 : decode cX7_equation 37 = .ok (.iload_n 1, 1) := by decide +kernel
theorem dX7_equation_38 : decode cX7_equation 38 = .ok (.aaload, 1) := by decide +kernel
theorem dX7_equation_39 : decode cX7_equation 39 = .ok (.getfield 131, 3) := by decide +kernel
theorem dX7_equation_42 : decode cX7_equation 42 = .ok (.iload_n 2, 1) := by decide +kernel
theorem dX7_equation_43 : decode cX7_equation 43 = .ok (.laload, 1) := by decide +kernel
theorem dX7_equation_44 : decode cX7_equation 44 = .ok (.lreturn, 1) := by decide +kernel
set_option maxRecDepth 20000 in
theorem ggX7_bends_X7_pointless : GoodIn wsX7_bends wsX7_pointless := goodIn_r _ [6, 1, 7, 8, 9, 10, 5, 11, 12, 13, 14, 15, 16, 17, 18, 26, 27, 28, 29, 30, 31, 32, 33, 34, 35, 36, 37, 38, 39, 40, 41] rfl (by decide +kernel)
set_option maxRecDepth 20000 in
theorem gX7_bends_X7_pointless : GoodIn wsX7_bends (wsV RX7 126 RX7 yX7_pointless wsX7_pointless) := goodIn_app (goodIn_of _ (by decide +kernel)) ggX7_bends_X7_pointless
set_option maxRecDepth 20000 in
theorem ggX7_bends_X0_equationDegree : GoodIn wsX7_bends wsX0_equationDegree := goodIn_r _ [23, 24, 25, 34, 35, 36, 37, 38, 39, 40, 41] rfl (by decide +kernel)
set_option maxRecDepth 20000 in
theorem gX7_bends_X0_equationDegree : GoodIn wsX7_bends (wsV RX7 134 RX0 yX0_equationDegree wsX0_equationDegree) := goodIn_app (goodIn_of _ (by decide +kernel)) ggX7_bends_X0_equationDegree
theorem dX7_bends_0 : decode cX7_bends 0 = .ok (.aload_n 0, 1) := by decide +kernel
theorem dX7_bends_1 : decode cX7_bends 1 = .ok (.iload_n 1, 1) := by decide +kernel
theorem dX7_bends_2 : decode cX7_bends 2 = .ok (.invokevirtual 126, 3) := by decide +kernel
theorem dX7_bends_5 : decode cX7_bends 5 = .ok (.istore_n 2, 1) := by decide +kernel
theorem dX7_bends_6 : decode cX7_bends 6 = .ok (.iload_n 2, 1) := by decide +kernel
theorem dX7_bends_7 : decode cX7_bends 7 = .ok (.ifCond .eq 7, 3) := by decide +kernel
theorem dX7_bends_10 : decode cX7_bends 10 = .ok (.iload_n 2, 1) := by decide +kernel
theorem dX7_bends_11 : decode cX7_bends 11 = .ok (.goto 12, 3) := by decide +kernel
theorem dX7_bends_14 : decode cX7_bends 14 = .ok (.aload_n 0, 1) := by decide +kernel
theorem dX7_bends_15 : decode cX7_bends 15 = .ok (.getfield 18, 3) := by decide +kernel
theorem dX7_bends_18 : decode cX7_bends 18 = .ok (.iload_n 1, 1) := by decide +kernel
theorem dX7_bends_19 : decode cX7_bends 19 = .ok (.aaload, 1) := by decide +kernel
theorem dX7_bends_20 : decode cX7_bends 20 = .ok (.invokevirtual 134, 3) := by decide +kernel
theorem dX7_bends_23 : decode cX7_bends 23 = .ok (.ireturn, 1) := by decide +kernel
set_option maxRecDepth 20000 in
theorem ggX7_times_X7_pointless : GoodIn wsX7_times wsX7_pointless := goodIn_r _ [8, 1, 2, 9, 10, 11, 7, 12, 13, 14, 15, 16, 17, 18, 19, 20, 21, 22, 23, 24, 25, 26, 27, 28, 29, 30, 31, 32, 33, 34, 35] rfl (by decide +kernel)
set_option maxRecDepth 20000 in
theorem gX7_times_X7_pointless : GoodIn wsX7_times (wsV RX7 126 RX7 yX7_pointless wsX7_pointless) := goodIn_app (goodIn_of _ (by decide +kernel)) ggX7_times_X7_pointless
theorem dX7_times_0 : decode cX7_times 0 = .ok (.aload_n 0, 1) := by decide +kernel
theorem dX7_times_1 : decode cX7_times 1 = .ok (.iload_n 1, 1) := by decide +kernel
theorem dX7_times_2 : decode cX7_times 2 = .ok (.invokevirtual 126, 3) := by decide +kernel
theorem dX7_times_5 : decode cX7_times 5 = .ok (.istore_n 2, 1) := by decide +kernel
theorem dX7_times_6 : decode cX7_times 6 = .ok (.iload_n 2, 1) := by decide +kernel
theorem dX7_times_7 : decode cX7_times 7 = .ok (.ifCond .eq 5, 3) := by decide +kernel
theorem dX7_times_10 : decode cX7_times 10 = .ok (.iload_n 2, 1) := by decide +kernel
theorem dX7_times_11 : decode cX7_times 11 = .ok (.ireturn, 1) := by decide +kernel
theorem dX7_times_12 : decode cX7_times 12 = .ok (.aload_n 0, 1) := by decide +kernel
theorem dX7_times_13 : decode cX7_times 13 = .ok (.getfield 18, 3) := by decide +kernel
theorem dX7_times_16 : decode cX7_times 16 = .ok (.iload_n 1, 1) := by decide +kernel
theorem dX7_times_17 : decode cX7_times 17 = .ok (.aaload, 1) := by decide +kernel
theorem dX7_times_18 : decode cX7_times 18 = .ok (.getfield 94, 3) := by decide +kernel
theorem dX7_times_21 : decode cX7_times 21 = .ok (.iconst 1, 1) := by decide +kernel
theorem dX7_times_22 : decode cX7_times 22 = .ok (.if_icmp .ne 15, 3) := by decide +kernel
theorem dX7_times_25 : decode cX7_times 25 = .ok (.aload_n 0, 1) := by decide +kernel
theorem dX7_times_26 : decode cX7_times 26 = .ok (.getfield 18, 3) := by decide +kernel
theorem dX7_times_29 : decode cX7_times 29 = .ok (.iload_n 1, 1) := by decide +kernel
theorem dX7_times_30 : decode cX7_times 30 = .ok (.aaload, 1) := by decide +kernel
theorem dX7_times_31 : decode cX7_times 31 = .ok (.getfield 97, 3) := by decide +kernel
theorem dX7_times_34 : decode cX7_times 34 = .ok (.goto 4, 3) := by decide +kernel
theorem dX7_times_37 : decode cX7_times 37 = .ok (.iconst 1, 1) := by decide +kernel
theorem dX7_times_38 : decode cX7_times 38 = .ok (.ireturn, 1) := by decide +kernel
set_option maxRecDepth 20000 in
theorem ggX7_lies_X7_within : GoodIn wsX7_lies wsX7_within := goodIn_r _ [5] rfl (by decide +kernel)
set_option maxRecDepth 20000 in
theorem gX7_lies_X7_within : GoodIn wsX7_lies (va_wsS RX7 54 yX7_within wsX7_within) := goodIn_app (goodIn_of _ (by decide +kernel)) ggX7_lies_X7_within
set_option maxRecDepth 20000 in
theorem ggX7_lies_X7_missing : GoodIn wsX7_lies wsX7_missing := goodIn_r _ [9, 1, 10, 11, 12, 4, 13, 2, 3, 5, 40, 41, 42, 43, 44, 45, 46, 47, 48, 49, 50, 51, 52, 53, 54, 55] rfl (by decide +kernel)
set_option maxRecDepth 20000 in
theorem gX7_lies_X7_missing : GoodIn wsX7_lies (wsV RX7 87 RX7 yX7_missing wsX7_missing) := goodIn_app (goodIn_of _ (by decide +kernel)) ggX7_lies_X7_missing
set_option maxRecDepth 20000 in
theorem ggX7_lies_X0_holds : GoodIn wsX7_lies wsX0_holds := goodIn_r _ [18, 19, 20, 21, 22, 23, 17, 24, 25, 26, 27, 28, 29, 30, 31, 32, 33, 34, 35, 36, 37, 38, 39, 48, 49, 50, 51, 52, 53, 54, 55] rfl (by decide +kernel)
set_option maxRecDepth 20000 in
theorem gX7_lies_X0_holds : GoodIn wsX7_lies (wsV RX7 138 RX0 yX0_holds wsX0_holds) := goodIn_app (goodIn_of _ (by decide +kernel)) ggX7_lies_X0_holds
theorem dX7_lies_0 : decode cX7_lies 0 = .ok (.iload_n 2, 1) := by decide +kernel
theorem dX7_lies_1 : decode cX7_lies 1 = .ok (.bipush (-20), 2) := by decide +kernel
theorem dX7_lies_3 : decode cX7_lies 3 = .ok (.bipush 20, 2) := by decide +kernel
theorem dX7_lies_5 : decode cX7_lies 5 = .ok (.invokestatic 54, 3) := by decide +kernel
theorem dX7_lies_8 : decode cX7_lies 8 = .ok (.ifCond .eq 25, 3) := by decide +kernel
theorem dX7_lies_11 : decode cX7_lies 11 = .ok (.iload_n 3, 1) := by decide +kernel
theorem dX7_lies_12 : decode cX7_lies 12 = .ok (.bipush (-20), 2) := by decide +kernel
theorem dX7_lies_14 : decode cX7_lies 14 = .ok (.bipush 20, 2) := by decide +kernel
theorem dX7_lies_16 : decode cX7_lies 16 = .ok (.invokestatic 54, 3) := by decide +kernel
theorem dX7_lies_19 : decode cX7_lies 19 = .ok (.ifCond .eq 14, 3) := by decide +kernel
theorem dX7_lies_22 : decode cX7_lies 22 = .ok (.iload 4, 2) := by decide +kernel
theorem dX7_lies_24 : decode cX7_lies 24 = .ok (.iconst 1, 1) := by decide +kernel
theorem dX7_lies_25 : decode cX7_lies 25 = .ok (.bipush 20, 2) := by decide +kernel
theorem dX7_lies_27 : decode cX7_lies 27 = .ok (.invokestatic 54, 3) := by decide +kernel
theorem dX7_lies_30 : decode cX7_lies 30 = .ok (.ifCond .ne 5, 3) := by decide +kernel
theorem dX7_lies_33 : decode cX7_lies 33 = .ok (.iconst (-1), 1) := by decide +kernel
theorem dX7_lies_34 : decode cX7_lies 34 = .ok (.ireturn, 1) := by decide +kernel
theorem dX7_lies_35 : decode cX7_lies 35 = .ok (.aload_n 0, 1) := by decide +kernel
theorem dX7_lies_36 : decode cX7_lies 36 = .ok (.iload_n 1, 1) := by decide +kernel
theorem dX7_lies_37 : decode cX7_lies 37 = .ok (.invokevirtual 87, 3) := by decide +kernel
theorem dX7_lies_40 : decode cX7_lies 40 = .ok (.istore 5, 2) := by decide +kernel
theorem dX7_lies_42 : decode cX7_lies 42 = .ok (.iload 5, 2) := by decide +kernel
theorem dX7_lies_44 : decode cX7_lies 44 = .ok (.ifCond .eq 6, 3) := by decide +kernel
theorem dX7_lies_47 : decode cX7_lies 47 = .ok (.iload 5, 2) := by decide +kernel
theorem dX7_lies_49 : decode cX7_lies 49 = .ok (.ireturn, 1) := by decide +kernel
theorem dX7_lies_50 : decode cX7_lies 50 = .ok (.aload_n 0, 1) := by decide +kernel
theorem dX7_lies_51 : decode cX7_lies 51 = .ok (.getfield 18, 3) := by decide +kernel
theorem dX7_lies_54 : decode cX7_lies 54 = .ok (.iload_n 1, 1) := by decide +kernel
theorem dX7_lies_55 : decode cX7_lies 55 = .ok (.aaload, 1) := by decide +kernel
theorem dX7_lies_56 : decode cX7_lies 56 = .ok (.iload_n 2, 1) := by decide +kernel
theorem dX7_lies_57 : decode cX7_lies 57 = .ok (.i2l, 1) := by decide +kernel
theorem dX7_lies_58 : decode cX7_lies 58 = .ok (.iload_n 3, 1) := by decide +kernel
theorem dX7_lies_59 : decode cX7_lies 59 = .ok (.i2l, 1) := by decide +kernel
theorem dX7_lies_60 : decode cX7_lies 60 = .ok (.iload 4, 2) := by decide +kernel
theorem dX7_lies_62 : decode cX7_lies 62 = .ok (.i2l, 1) := by decide +kernel
theorem dX7_lies_63 : decode cX7_lies 63 = .ok (.invokevirtual 138, 3) := by decide +kernel
theorem dX7_lies_66 : decode cX7_lies 66 = .ok (.ifCond .eq 7, 3) := by decide +kernel
theorem dX7_lies_69 : decode cX7_lies 69 = .ok (.iconst 1, 1) := by decide +kernel
theorem dX7_lies_70 : decode cX7_lies 70 = .ok (.goto 4, 3) := by decide +kernel
theorem dX7_lies_73 : decode cX7_lies 73 = .ok (.iconst 0, 1) := by decide +kernel
theorem dX7_lies_74 : decode cX7_lies 74 = .ok (.ireturn, 1) := by decide +kernel
set_option maxRecDepth 20000 in
theorem ggX7_law_X7_within : GoodIn wsX7_law wsX7_within := goodIn_r _ [8] rfl (by decide +kernel)
set_option maxRecDepth 20000 in
theorem gX7_law_X7_within : GoodIn wsX7_law (va_wsS RX7 54 yX7_within wsX7_within) := goodIn_app (goodIn_of _ (by decide +kernel)) ggX7_law_X7_within
set_option maxRecDepth 20000 in
theorem ggX7_law_X7_lawless : GoodIn wsX7_law wsX7_lawless := goodIn_r _ [12, 3, 13, 14, 15, 16, 7, 17, 18, 19, 20, 21, 5, 6, 8, 22, 23, 24, 25, 26, 27, 28, 29, 30, 31, 32, 33, 34, 35, 36, 37] rfl (by decide +kernel)
set_option maxRecDepth 20000 in
theorem gX7_law_X7_lawless : GoodIn wsX7_law (wsV RX7 142 RX7 yX7_lawless wsX7_lawless) := goodIn_app (goodIn_of _ (by decide +kernel)) ggX7_law_X7_lawless
theorem dX7_law_0 : decode cX7_law 0 = .ok (.iload_n 2, 1) := by decide +kernel
theorem dX7_law_1 : decode cX7_law 1 = .ok (.iconst 0, 1) := by decide +kernel
theorem dX7_law_2 : decode cX7_law 2 = .ok (.iconst 5, 1) := by decide +kernel
theorem dX7_law_3 : decode cX7_law 3 = .ok (.invokestatic 54, 3) := by decide +kernel
theorem dX7_law_6 : decode cX7_law 6 = .ok (.ifCond .ne 7, 3) := by decide +kernel
theorem dX7_law_9 : decode cX7_law 9 = .ok (.ldc2_w 108, 3) := by decide +kernel
theorem dX7_law_12 : decode cX7_law 12 = .ok (.lreturn, 1) := by decide +kernel
theorem dX7_law_13 : decode cX7_law 13 = .ok (.aload_n 0, 1) := by decide +kernel
theorem dX7_law_14 : decode cX7_law 14 = .ok (.iload_n 1, 1) := by decide +kernel
theorem dX7_law_15 : decode cX7_law 15 = .ok (.invokevirtual 142, 3) := by decide +kernel
theorem dX7_law_18 : decode cX7_law 18 = .ok (.istore_n 3, 1) := by decide +kernel
theorem dX7_law_19 : decode cX7_law 19 = .ok (.iload_n 3, 1) := by decide +kernel
theorem dX7_law_20 : decode cX7_law 20 = .ok (.ifCond .eq 12, 3) := by decide +kernel
theorem dX7_law_23 : decode cX7_law 23 = .ok (.iload_n 3, 1) := by decide +kernel
theorem dX7_law_24 : decode cX7_law 24 = .ok (.i2l, 1) := by decide +kernel
theorem dX7_law_25 : decode cX7_law 25 = .ok (.ldc2_w 110, 3) := by decide +kernel
theorem dX7_law_28 : decode cX7_law 28 = .ok (.lsub, 1) := by decide +kernel
theorem dX7_law_29 : decode cX7_law 29 = .ok (.goto 14, 3) := by decide +kernel
theorem dX7_law_32 : decode cX7_law 32 = .ok (.aload_n 0, 1) := by decide +kernel
theorem dX7_law_33 : decode cX7_law 33 = .ok (.getfield 18, 3) := by decide +kernel
theorem dX7_law_36 : decode cX7_law 36 = .ok (.iload_n 1, 1) := by decide +kernel
theorem dX7_law_37 : decode cX7_law 37 = .ok (.aaload, 1) := by decide +kernel
theorem dX7_law_38 : decode cX7_law 38 = .ok (.getfield 145, 3) := by decide +kernel
theorem dX7_law_41 : decode cX7_law 41 = .ok (.iload_n 2, 1) := by decide +kernel
theorem dX7_law_42 : decode cX7_law 42 = .ok (.laload, 1) := by decide +kernel
theorem dX7_law_43 : decode cX7_law 43 = .ok (.lreturn, 1) := by decide +kernel
set_option maxRecDepth 20000 in
theorem ggX7_knot_X7_within : GoodIn wsX7_knot wsX7_within := goodIn_r _ [8] rfl (by decide +kernel)
set_option maxRecDepth 20000 in
theorem gX7_knot_X7_within : GoodIn wsX7_knot (va_wsS RX7 54 yX7_within wsX7_within) := goodIn_app (goodIn_of _ (by decide +kernel)) ggX7_knot_X7_within
set_option maxRecDepth 20000 in
theorem ggX7_knot_X7_lawless : GoodIn wsX7_knot wsX7_lawless := goodIn_r _ [12, 3, 13, 14, 15, 16, 7, 17, 18, 19, 20, 21, 5, 6, 8, 22, 23, 24, 25, 26, 27, 28, 29, 30, 31, 32, 33, 34, 35, 36, 37] rfl (by decide +kernel)
set_option maxRecDepth 20000 in
theorem gX7_knot_X7_lawless : GoodIn wsX7_knot (wsV RX7 142 RX7 yX7_lawless wsX7_lawless) := goodIn_app (goodIn_of _ (by decide +kernel)) ggX7_knot_X7_lawless
theorem dX7_knot_0 : decode cX7_knot 0 = .ok (.iload_n 2, 1) := by decide +kernel
theorem dX7_knot_1 : decode cX7_knot 1 = .ok (.iconst 0, 1) := by decide +kernel
theorem dX7_knot_2 : decode cX7_knot 2 = .ok (.iconst 2, 1) := by decide +kernel
theorem dX7_knot_3 : decode cX7_knot 3 = .ok (.invokestatic 54, 3) := by decide +kernel
theorem dX7_knot_6 : decode cX7_knot 6 = .ok (.ifCond .ne 7, 3) := by decide +kernel
theorem dX7_knot_9 : decode cX7_knot 9 = .ok (.ldc2_w 108, 3) := by decide +kernel
theorem dX7_knot_12 : decode cX7_knot 12 = .ok (.lreturn, 1) := by decide +kernel
theorem dX7_knot_13 : decode cX7_knot 13 = .ok (.aload_n 0, 1) := by decide +kernel
theorem dX7_knot_14 : decode cX7_knot 14 = .ok (.iload_n 1, 1) := by decide +kernel
theorem dX7_knot_15 : decode cX7_knot 15 = .ok (.invokevirtual 142, 3) := by decide +kernel
theorem dX7_knot_18 : decode cX7_knot 18 = .ok (.istore_n 3, 1) := by decide +kernel
theorem dX7_knot_19 : decode cX7_knot 19 = .ok (.iload_n 3, 1) := by decide +kernel
theorem dX7_knot_20 : decode cX7_knot 20 = .ok (.ifCond .eq 12, 3) := by decide +kernel
theorem dX7_knot_23 : decode cX7_knot 23 = .ok (.iload_n 3, 1) := by decide +kernel
theorem dX7_knot_24 : decode cX7_knot 24 = .ok (.i2l, 1) := by decide +kernel
theorem dX7_knot_25 : decode cX7_knot 25 = .ok (.ldc2_w 110, 3) := by decide +kernel
theorem dX7_knot_28 : decode cX7_knot 28 = .ok (.lsub, 1) := by decide +kernel
theorem dX7_knot_29 : decode cX7_knot 29 = .ok (.goto 14, 3) := by decide +kernel
theorem dX7_knot_32 : decode cX7_knot 32 = .ok (.aload_n 0, 1) := by decide +kernel
theorem dX7_knot_33 : decode cX7_knot 33 = .ok (.getfield 18, 3) := by decide +kernel
theorem dX7_knot_36 : decode cX7_knot 36 = .ok (.iload_n 1, 1) := by decide +kernel
theorem dX7_knot_37 : decode cX7_knot 37 = .ok (.aaload, 1) := by decide +kernel
theorem dX7_knot_38 : decode cX7_knot 38 = .ok (.getfield 148, 3) := by decide +kernel
theorem dX7_knot_41 : decode cX7_knot 41 = .ok (.iload_n 2, 1) := by decide +kernel
theorem dX7_knot_42 : decode cX7_knot 42 = .ok (.laload, 1) := by decide +kernel
theorem dX7_knot_43 : decode cX7_knot 43 = .ok (.lreturn, 1) := by decide +kernel
set_option maxRecDepth 20000 in
theorem ggX7_crosses_X7_lawless : GoodIn wsX7_crosses wsX7_lawless := goodIn_r _ [7, 1, 8, 9, 10, 11, 6, 12, 13, 14, 15, 16, 17, 18, 19, 20, 21, 22, 23, 24, 25, 26, 27, 28, 29, 30, 31, 32, 33, 34, 35] rfl (by decide +kernel)
set_option maxRecDepth 20000 in
theorem gX7_crosses_X7_lawless : GoodIn wsX7_crosses (wsV RX7 142 RX7 yX7_lawless wsX7_lawless) := goodIn_app (goodIn_of _ (by decide +kernel)) ggX7_crosses_X7_lawless
theorem dX7_crosses_0 : decode cX7_crosses 0 = .ok (.aload_n 0, 1) := by decide +kernel
theorem dX7_crosses_1 : decode cX7_crosses 1 = .ok (.iload_n 1, 1) := by decide +kernel
theorem dX7_crosses_2 : decode cX7_crosses 2 = .ok (.invokevirtual 142, 3) := by decide +kernel
theorem dX7_crosses_5 : decode cX7_crosses 5 = .ok (.istore_n 2, 1) := by decide +kernel
theorem dX7_crosses_6 : decode cX7_crosses 6 = .ok (.iload_n 2, 1) := by decide +kernel
theorem dX7_crosses_7 : decode cX7_crosses 7 = .ok (.ifCond .eq 7, 3) := by decide +kernel
theorem dX7_crosses_10 : decode cX7_crosses 10 = .ok (.iload_n 2, 1) := by decide +kernel
theorem dX7_crosses_11 : decode cX7_crosses 11 = .ok (.goto 12, 3) := by decide +kernel
theorem dX7_crosses_14 : decode cX7_crosses 14 = .ok (.aload_n 0, 1) := by decide +kernel
theorem dX7_crosses_15 : decode cX7_crosses 15 = .ok (.getfield 18, 3) := by decide +kernel
theorem dX7_crosses_18 : decode cX7_crosses 18 = .ok (.iload_n 1, 1) := by decide +kernel
theorem dX7_crosses_19 : decode cX7_crosses 19 = .ok (.aaload, 1) := by decide +kernel
theorem dX7_crosses_20 : decode cX7_crosses 20 = .ok (.getfield 151, 3) := by decide +kernel
theorem dX7_crosses_23 : decode cX7_crosses 23 = .ok (.ireturn, 1) := by decide +kernel
set_option maxRecDepth 20000 in
theorem ggX7_meets_X7_within : GoodIn wsX7_meets wsX7_within := goodIn_r _ [6] rfl (by decide +kernel)
set_option maxRecDepth 20000 in
theorem gX7_meets_X7_within : GoodIn wsX7_meets (va_wsS RX7 54 yX7_within wsX7_within) := goodIn_app (goodIn_of _ (by decide +kernel)) ggX7_meets_X7_within
set_option maxRecDepth 20000 in
theorem ggX7_meets_X7_missing : GoodIn wsX7_meets wsX7_missing := goodIn_r _ [10, 2, 11, 12, 13, 5, 14, 3, 4, 6, 47, 48, 49, 50, 51, 52, 53, 54, 55, 56, 57, 58, 59, 60, 61, 62] rfl (by decide +kernel)
set_option maxRecDepth 20000 in
theorem gX7_meets_X7_missing : GoodIn wsX7_meets (wsV RX7 87 RX7 yX7_missing wsX7_missing) := goodIn_app (goodIn_of _ (by decide +kernel)) ggX7_meets_X7_missing
set_option maxRecDepth 20000 in
theorem ggX7_meets_X0_combined : GoodIn wsX7_meets wsX0_combined := goodIn_r _ [19, 20, 21, 22, 18, 23, 24, 55, 56, 57, 58, 59, 60, 61, 62] rfl (by decide +kernel)
set_option maxRecDepth 20000 in
theorem gX7_meets_X0_combined : GoodIn wsX7_meets (wsV RX7 154 RX0 yX0_combined wsX0_combined) := goodIn_app (goodIn_of _ (by decide +kernel)) ggX7_meets_X0_combined
set_option maxRecDepth 20000 in
theorem ggX7_meets_X6_first : GoodIn wsX7_meets wsX6_first := goodIn_r _ [28] rfl (by decide +kernel)
set_option maxRecDepth 20000 in
theorem gX7_meets_X6_first : GoodIn wsX7_meets (va_wsS RX7 158 yX6_first wsX6_first) := goodIn_app (goodIn_of _ (by decide +kernel)) ggX7_meets_X6_first
set_option maxRecDepth 20000 in
theorem ggX7_meets_X2_count : GoodIn wsX7_meets wsX2_count := goodIn_r _ [32, 33, 34, 35, 27, 36, 37, 38, 31, 39, 40, 41, 42, 43, 44, 45, 46] rfl (by decide +kernel)
set_option maxRecDepth 20000 in
theorem gX7_meets_X2_count : GoodIn wsX7_meets (va_wsS RX7 162 yX2_count wsX2_count) := goodIn_app (goodIn_of _ (by decide +kernel)) ggX7_meets_X2_count
theorem dX7_meets_0 : decode cX7_meets 0 = .ok (.iload_n 2, 1) := by decide +kernel
theorem dX7_meets_1 : decode cX7_meets 1 = .ok (.bipush (-20), 2) := by decide +kernel
theorem dX7_meets_3 : decode cX7_meets 3 = .ok (.bipush 20, 2) := by decide +kernel
theorem dX7_meets_5 : decode cX7_meets 5 = .ok (.invokestatic 54, 3) := by decide +kernel
theorem dX7_meets_8 : decode cX7_meets 8 = .ok (.ifCond .eq 34, 3) := by decide +kernel
theorem dX7_meets_11 : decode cX7_meets 11 = .ok (.iload_n 3, 1) := by decide +kernel
theorem dX7_meets_12 : decode cX7_meets 12 = .ok (.bipush (-20), 2) := by decide +kernel
theorem dX7_meets_14 : decode cX7_meets 14 = .ok (.bipush 20, 2) := by decide +kernel
theorem dX7_meets_16 : decode cX7_meets 16 = .ok (.invokestatic 54, 3) := by decide +kernel
theorem dX7_meets_19 : decode cX7_meets 19 = .ok (.ifCond .eq 23, 3) := by decide +kernel
theorem dX7_meets_22 : decode cX7_meets 22 = .ok (.iload 4, 2) := by decide +kernel
theorem dX7_meets_24 : decode cX7_meets 24 = .ok (.bipush (-20), 2) := by decide +kernel
theorem dX7_meets_26 : decode cX7_meets 26 = .ok (.bipush 20, 2) := by decide +kernel
theorem dX7_meets_28 : decode cX7_meets 28 = .ok (.invokestatic 54, 3) := by decide +kernel
theorem dX7_meets_31 : decode cX7_meets 31 = .ok (.ifCond .eq 11, 3) := by decide +kernel
theorem dX7_meets_34 : decode cX7_meets 34 = .ok (.iload_n 2, 1) := by decide +kernel
theorem dX7_meets_35 : decode cX7_meets 35 = .ok (.ifCond .ne 9, 3) := by decide +kernel
theorem dX7_meets_38 : decode cX7_meets 38 = .ok (.iload_n 3, 1) := by decide +kernel
theorem dX7_meets_39 : decode cX7_meets 39 = .ok (.ifCond .ne 5, 3) := by decide +kernel
theorem dX7_meets_42 : decode cX7_meets 42 = .ok (.iconst (-1), 1) := by decide +kernel
theorem dX7_meets_43 : decode cX7_meets 43 = .ok (.ireturn, 1) := by decide +kernel
theorem dX7_meets_44 : decode cX7_meets 44 = .ok (.aload_n 0, 1) := by decide +kernel
theorem dX7_meets_45 : decode cX7_meets 45 = .ok (.iload_n 1, 1) := by decide +kernel
theorem dX7_meets_46 : decode cX7_meets 46 = .ok (.invokevirtual 87, 3) := by decide +kernel
theorem dX7_meets_49 : decode cX7_meets 49 = .ok (.istore 5, 2) := by decide +kernel
theorem dX7_meets_51 : decode cX7_meets 51 = .ok (.iload 5, 2) := by decide +kernel
theorem dX7_meets_53 : decode cX7_meets 53 = .ok (.ifCond .eq 6, 3) := by decide +kernel
theorem dX7_meets_56 : decode cX7_meets 56 = .ok (.iload 5, 2) := by decide +kernel
theorem dX7_meets_58 : decode cX7_meets 58 = .ok (.ireturn, 1) := by decide +kernel
theorem dX7_meets_59 : decode cX7_meets 59 = .ok (.iconst 0, 1) := by decide +kernel
theorem dX7_meets_60 : decode cX7_meets 60 = .ok (.istore 6, 2) := by decide +kernel
theorem dX7_meets_62 : decode cX7_meets 62 = .ok (.iload 6, 2) := by decide +kernel
theorem dX7_meets_64 : decode cX7_meets 64 = .ok (.iconst 4, 1) := by decide +kernel
theorem dX7_meets_65 : decode cX7_meets 65 = .ok (.if_icmp .ge 34, 3) := by decide +kernel
theorem dX7_meets_68 : decode cX7_meets 68 = .ok (.aload_n 0, 1) := by decide +kernel
theorem dX7_meets_69 : decode cX7_meets 69 = .ok (.getfield 46, 3) := by decide +kernel
theorem dX7_meets_72 : decode cX7_meets 72 = .ok (.iload 6, 2) := by decide +kernel
theorem dX7_meets_74 : decode cX7_meets 74 = .ok (.aload_n 0, 1) := by decide +kernel
theorem dX7_meets_75 : decode cX7_meets 75 = .ok (.getfield 18, 3) := by decide +kernel
theorem dX7_meets_78 : decode cX7_meets 78 = .ok (.iload_n 1, 1) := by decide +kernel
theorem dX7_meets_79 : decode cX7_meets 79 = .ok (.aaload, 1) := by decide +kernel
theorem dX7_meets_80 : decode cX7_meets 80 = .ok (.iload_n 2, 1) := by decide +kernel
theorem dX7_meets_81 : decode cX7_meets 81 = .ok (.i2l, 1) := by decide +kernel
theorem dX7_meets_82 : decode cX7_meets 82 = .ok (.iload_n 3, 1) := by decide +kernel
theorem dX7_meets_83 : decode cX7_meets 83 = .ok (.i2l, 1) := by decide +kernel
theorem dX7_meets_84 : decode cX7_meets 84 = .ok (.iload 4, 2) := by decide +kernel
theorem dX7_meets_86 : decode cX7_meets 86 = .ok (.i2l, 1) := by decide +kernel
theorem dX7_meets_87 : decode cX7_meets 87 = .ok (.iload 6, 2) := by decide +kernel
theorem dX7_meets_89 : decode cX7_meets 89 = .ok (.invokevirtual 154, 3) := by decide +kernel
theorem dX7_meets_92 : decode cX7_meets 92 = .ok (.lastore, 1) := by decide +kernel
theorem dX7_meets_93 : decode cX7_meets 93 = .ok (.iinc 6 1, 3) := by decide +kernel
theorem dX7_meets_96 : decode cX7_meets 96 = .ok (.goto (-34), 3) := by decide +kernel
theorem dX7_meets_99 : decode cX7_meets 99 = .ok (.aload_n 0, 1) := by decide +kernel
theorem dX7_meets_100 : decode cX7_meets 100 = .ok (.getfield 46, 3) := by decide +kernel
theorem dX7_meets_103 : decode cX7_meets 103 = .ok (.invokestatic 158, 3) := by decide +kernel
theorem dX7_meets_106 : decode cX7_meets 106 = .ok (.ifCond .ge 8, 3) := by decide +kernel
theorem dX7_meets_109 : decode cX7_meets 109 = .ok (.bipush (-4), 2) := by decide +kernel
theorem dX7_meets_111 : decode cX7_meets 111 = .ok (.goto 10, 3) := by decide +kernel
theorem dX7_meets_114 : decode cX7_meets 114 = .ok (.aload_n 0, 1) := by decide +kernel
theorem dX7_meets_115 : decode cX7_meets 115 = .ok (.getfield 46, 3) := by decide +kernel
theorem dX7_meets_118 : decode cX7_meets 118 = .ok (.invokestatic 162, 3) := by decide +kernel
theorem dX7_meets_121 : decode cX7_meets 121 = .ok (.ireturn, 1) := by decide +kernel
set_option maxRecDepth 20000 in
theorem ggX7_touch_X7_isLetter : GoodIn wsX7_touch wsX7_isLetter := goodIn_r _ [10, 11, 12, 9, 13] rfl (by decide +kernel)
set_option maxRecDepth 20000 in
theorem gX7_touch_X7_isLetter : GoodIn wsX7_touch (va_wsS RX7 104 yX7_isLetter wsX7_isLetter) := goodIn_app (goodIn_of _ (by decide +kernel)) ggX7_touch_X7_isLetter
set_option maxRecDepth 20000 in
theorem ggX7_touch_X7_within : GoodIn wsX7_touch wsX7_within := goodIn_r _ [13] rfl (by decide +kernel)
set_option maxRecDepth 20000 in
theorem gX7_touch_X7_within : GoodIn wsX7_touch (va_wsS RX7 54 yX7_within wsX7_within) := goodIn_app (goodIn_of _ (by decide +kernel)) ggX7_touch_X7_within
set_option maxRecDepth 20000 in
theorem ggX7_touch_X7_missing : GoodIn wsX7_touch wsX7_missing := goodIn_r _ [17, 4, 18, 19, 20, 9, 21, 11, 12, 13, 72, 73, 74, 75, 76, 77, 78, 79, 80, 81, 82, 83, 84, 85, 86, 87] rfl (by decide +kernel)
set_option maxRecDepth 20000 in
theorem gX7_touch_X7_missing : GoodIn wsX7_touch (wsV RX7 87 RX7 yX7_missing wsX7_missing) := goodIn_app (goodIn_of _ (by decide +kernel)) ggX7_touch_X7_missing
set_option maxRecDepth 20000 in
theorem ggX7_touch_X4_findTouch : GoodIn wsX7_touch wsX4_findTouch := goodIn_r _ [26, 27, 28, 29, 30, 31, 32, 33, 34, 35, 36, 37, 38, 39, 40, 41, 42, 43, 44, 45, 46, 47, 48, 49, 50, 51, 52, 25, 53, 54, 55, 56, 57, 58, 59, 60, 61, 62, 63, 64, 65, 66, 67, 68, 69, 70, 88, 89, 90, 91, 92, 93, 80, 81, 82, 83, 84, 85, 86, 87] rfl (by decide +kernel)
set_option maxRecDepth 20000 in
theorem gX7_touch_X4_findTouch : GoodIn wsX7_touch (wsV RX7 167 RX4 yX4_findTouch wsX4_findTouch) := goodIn_app (goodIn_of _ (by decide +kernel)) ggX7_touch_X4_findTouch
set_option maxRecDepth 20000 in
theorem ggX7_touch_X6_first : GoodIn wsX7_touch wsX6_first := goodIn_r _ [67] rfl (by decide +kernel)
set_option maxRecDepth 20000 in
theorem gX7_touch_X6_first : GoodIn wsX7_touch (va_wsS RX7 158 yX6_first wsX6_first) := goodIn_app (goodIn_of _ (by decide +kernel)) ggX7_touch_X6_first
theorem dX7_touch_0 : decode cX7_touch 0 = .ok (.iload_n 2, 1) := by decide +kernel
theorem dX7_touch_1 : decode cX7_touch 1 = .ok (.iload_n 3, 1) := by decide +kernel
theorem dX7_touch_2 : decode cX7_touch 2 = .ok (.invokestatic 104, 3) := by decide +kernel
theorem dX7_touch_5 : decode cX7_touch 5 = .ok (.ifCond .eq 13, 3) := by decide +kernel
theorem dX7_touch_8 : decode cX7_touch 8 = .ok (.iload 4, 2) := by decide +kernel
theorem dX7_touch_10 : decode cX7_touch 10 = .ok (.iconst 0, 1) := by decide +kernel
theorem dX7_touch_11 : decode cX7_touch 11 = .ok (.iconst 2, 1) := by decide +kernel
theorem dX7_touch_12 : decode cX7_touch 12 = .ok (.invokestatic 54, 3) := by decide +kernel
theorem dX7_touch_15 : decode cX7_touch 15 = .ok (.ifCond .ne 7, 3) := by decide +kernel
theorem dX7_touch_18 : decode cX7_touch 18 = .ok (.ldc2_w 108, 3) := by decide +kernel
theorem dX7_touch_21 : decode cX7_touch 21 = .ok (.lreturn, 1) := by decide +kernel
theorem dX7_touch_22 : decode cX7_touch 22 = .ok (.aload_n 0, 1) := by decide +kernel
theorem dX7_touch_23 : decode cX7_touch 23 = .ok (.iload_n 1, 1) := by decide +kernel
theorem dX7_touch_24 : decode cX7_touch 24 = .ok (.invokevirtual 87, 3) := by decide +kernel
theorem dX7_touch_27 : decode cX7_touch 27 = .ok (.istore 5, 2) := by decide +kernel
theorem dX7_touch_29 : decode cX7_touch 29 = .ok (.iload 5, 2) := by decide +kernel
theorem dX7_touch_31 : decode cX7_touch 31 = .ok (.ifCond .eq 11, 3) := by decide +kernel
theorem dX7_touch_34 : decode cX7_touch 34 = .ok (.iload 5, 2) := by decide +kernel
theorem dX7_touch_36 : decode cX7_touch 36 = .ok (.i2l, 1) := by decide +kernel
theorem dX7_touch_37 : decode cX7_touch 37 = .ok (.ldc2_w 110, 3) := by decide +kernel
theorem dX7_touch_40 : decode cX7_touch 40 = .ok (.lsub, 1) := by decide +kernel
theorem dX7_touch_41 : decode cX7_touch 41 = .ok (.lreturn, 1) := by decide +kernel
theorem dX7_touch_42 : decode cX7_touch 42 = .ok (.aload_n 0, 1) := by decide +kernel
theorem dX7_touch_43 : decode cX7_touch 43 = .ok (.getfield 38, 3) := by decide +kernel
theorem dX7_touch_46 : decode cX7_touch 46 = .ok (.aload_n 0, 1) := by decide +kernel
theorem dX7_touch_47 : decode cX7_touch 47 = .ok (.getfield 18, 3) := by decide +kernel
theorem dX7_touch_50 : decode cX7_touch 50 = .ok (.iload_n 1, 1) := by decide +kernel
theorem dX7_touch_51 : decode cX7_touch 51 = .ok (.aaload, 1) := by decide +kernel
theorem dX7_touch_52 : decode cX7_touch 52 = .ok (.iload_n 2, 1) := by decide +kernel
theorem dX7_touch_53 : decode cX7_touch 53 = .ok (.iload_n 3, 1) := by decide +kernel
theorem dX7_touch_54 : decode cX7_touch 54 = .ok (.aload_n 0, 1) := by decide +kernel
theorem dX7_touch_55 : decode cX7_touch 55 = .ok (.getfield 49, 3) := by decide +kernel
theorem dX7_touch_58 : decode cX7_touch 58 = .ok (.invokevirtual 167, 3) := by decide +kernel
theorem dX7_touch_61 : decode cX7_touch 61 = .ok (.aload_n 0, 1) := by decide +kernel
theorem dX7_touch_62 : decode cX7_touch 62 = .ok (.getfield 49, 3) := by decide +kernel
theorem dX7_touch_65 : decode cX7_touch 65 = .ok (.invokestatic 158, 3) := by decide +kernel
theorem dX7_touch_68 : decode cX7_touch 68 = .ok (.ifCond .ge 9, 3) := by decide +kernel
theorem dX7_touch_71 : decode cX7_touch 71 = .ok (.ldc2_w 122, 3) := by decide +kernel
theorem dX7_touch_74 : decode cX7_touch 74 = .ok (.goto 10, 3) := by decide +kernel
theorem dX7_touch_77 : decode cX7_touch 77 = .ok (.aload_n 0, 1) := by decide +kernel
theorem dX7_touch_78 : decode cX7_touch 78 = .ok (.getfield 49, 3) := by decide +kernel
theorem dX7_touch_81 : decode cX7_touch 81 = .ok (.iload 4, 2) := by decide +kernel
theorem dX7_touch_83 : decode cX7_touch 83 = .ok (.laload, 1) := by decide +kernel
theorem dX7_touch_84 : decode cX7_touch 84 = .ok (.lreturn, 1) := by decide +kernel
set_option maxRecDepth 20000 in
theorem ggX7_same_X7_isLine : GoodIn wsX7_same wsX7_isLine := goodIn_r _ [9, 10, 11, 8, 12] rfl (by decide +kernel)
set_option maxRecDepth 20000 in
theorem gX7_same_X7_isLine : GoodIn wsX7_same (va_wsS RX7 69 yX7_isLine wsX7_isLine) := goodIn_app (goodIn_of _ (by decide +kernel)) ggX7_same_X7_isLine
set_option maxRecDepth 20000 in
theorem ggX7_same_X6_alike : GoodIn wsX7_same wsX6_alike := goodIn_r _ [16] rfl (by decide +kernel)
set_option maxRecDepth 20000 in
theorem gX7_same_X6_alike : GoodIn wsX7_same (va_wsS RX7 174 yX6_alike wsX6_alike) := goodIn_app (goodIn_of _ (by decide +kernel)) ggX7_same_X6_alike
theorem dX7_same_0 : decode cX7_same 0 = .ok (.iload_n 1, 1) := by decide +kernel
theorem dX7_same_1 : decode cX7_same 1 = .ok (.invokestatic 69, 3) := by decide +kernel
theorem dX7_same_4 : decode cX7_same 4 = .ok (.ifCond .eq 10, 3) := by decide +kernel
theorem dX7_same_7 : decode cX7_same 7 = .ok (.iload_n 2, 1) := by decide +kernel
theorem dX7_same_8 : decode cX7_same 8 = .ok (.invokestatic 69, 3) := by decide +kernel
theorem dX7_same_11 : decode cX7_same 11 = .ok (.ifCond .ne 5, 3) := by decide +kernel
theorem dX7_same_14 : decode cX7_same 14 = .ok (.iconst (-1), 1) := by decide +kernel
theorem dX7_same_15 : decode cX7_same 15 = .ok (.ireturn, 1) := by decide +kernel
theorem dX7_same_16 : decode cX7_same 16 = .ok (.aload_n 0, 1) := by decide +kernel
theorem dX7_same_17 : decode cX7_same 17 = .ok (.getfield 18, 3) := by decide +kernel
theorem dX7_same_20 : decode cX7_same 20 = .ok (.iload_n 1, 1) := by decide +kernel
theorem dX7_same_21 : decode cX7_same 21 = .ok (.aaload, 1) := by decide +kernel
theorem dX7_same_22 : decode cX7_same 22 = .ok (.astore_n 3, 1) := by decide +kernel
theorem dX7_same_23 : decode cX7_same 23 = .ok (.aload_n 0, 1) := by decide +kernel
theorem dX7_same_24 : decode cX7_same 24 = .ok (.getfield 18, 3) := by decide +kernel
theorem dX7_same_27 : decode cX7_same 27 = .ok (.iload_n 2, 1) := by decide +kernel
theorem dX7_same_28 : decode cX7_same 28 = .ok (.aaload, 1) := by decide +kernel
theorem dX7_same_29 : decode cX7_same 29 = .ok (.astore 4, 2) := by decide +kernel
theorem dX7_same_31 : decode cX7_same 31 = .ok (.aload_n 3, 1) := by decide +kernel
theorem dX7_same_32 : decode cX7_same 32 = .ok (.getfield 90, 3) := by decide +kernel
theorem dX7_same_35 : decode cX7_same 35 = .ok (.ifCond .eq 11, 3) := by decide +kernel
theorem dX7_same_38 : decode cX7_same 38 = .ok (.aload 4, 2) := by decide +kernel
theorem dX7_same_40 : decode cX7_same 40 = .ok (.getfield 90, 3) := by decide +kernel
theorem dX7_same_43 : decode cX7_same 43 = .ok (.ifCond .ne 6, 3) := by decide +kernel
theorem dX7_same_46 : decode cX7_same 46 = .ok (.bipush (-2), 2) := by decide +kernel
theorem dX7_same_48 : decode cX7_same 48 = .ok (.ireturn, 1) := by decide +kernel
theorem dX7_same_49 : decode cX7_same 49 = .ok (.aload_n 3, 1) := by decide +kernel
theorem dX7_same_50 : decode cX7_same 50 = .ok (.getfield 94, 3) := by decide +kernel
theorem dX7_same_53 : decode cX7_same 53 = .ok (.ifCond .ne 26, 3) := by decide +kernel
theorem dX7_same_56 : decode cX7_same 56 = .ok (.aload 4, 2) := by decide +kernel
theorem dX7_same_58 : decode cX7_same 58 = .ok (.getfield 94, 3) := by decide +kernel
theorem dX7_same_61 : decode cX7_same 61 = .ok (.ifCond .ne 18, 3) := by decide +kernel
theorem dX7_same_64 : decode cX7_same 64 = .ok (.aload_n 3, 1) := by decide +kernel
theorem dX7_same_65 : decode cX7_same 65 = .ok (.getfield 171, 3) := by decide +kernel
theorem dX7_same_68 : decode cX7_same 68 = .ok (.aload 4, 2) := by decide +kernel
theorem dX7_same_70 : decode cX7_same 70 = .ok (.getfield 171, 3) := by decide +kernel
theorem dX7_same_73 : decode cX7_same 73 = .ok (.invokestatic 174, 3) := by decide +kernel
theorem dX7_same_76 : decode cX7_same 76 = .ok (.goto 15, 3) := by decide +kernel
theorem dX7_same_79 : decode cX7_same 79 = .ok (.aload_n 3, 1) := by decide +kernel
theorem dX7_same_80 : decode cX7_same 80 = .ok (.getfield 131, 3) := by decide +kernel
theorem dX7_same_83 : decode cX7_same 83 = .ok (.aload 4, 2) := by decide +kernel
theorem dX7_same_85 : decode cX7_same 85 = .ok (.getfield 131, 3) := by decide +kernel
theorem dX7_same_88 : decode cX7_same 88 = .ok (.invokestatic 174, 3) := by decide +kernel
theorem dX7_same_91 : decode cX7_same 91 = .ok (.istore 5, 2) := by decide +kernel
theorem dX7_same_93 : decode cX7_same 93 = .ok (.iload 5, 2) := by decide +kernel
theorem dX7_same_95 : decode cX7_same 95 = .ok (.ifCond .eq 7, 3) := by decide +kernel
theorem dX7_same_98 : decode cX7_same 98 = .ok (.iconst 1, 1) := by decide +kernel
theorem dX7_same_99 : decode cX7_same 99 = .ok (.goto 4, 3) := by decide +kernel
theorem dX7_same_102 : decode cX7_same 102 = .ok (.iconst 0, 1) := by decide +kernel
theorem dX7_same_103 : decode cX7_same 103 = .ok (.ireturn, 1) := by decide +kernel
set_option maxRecDepth 20000 in
theorem ggX7_anew_X7_within : GoodIn wsX7_anew wsX7_within := goodIn_r _ [8] rfl (by decide +kernel)
set_option maxRecDepth 20000 in
theorem gX7_anew_X7_within : GoodIn wsX7_anew (va_wsS RX7 54 yX7_within wsX7_within) := goodIn_app (goodIn_of _ (by decide +kernel)) ggX7_anew_X7_within
set_option maxRecDepth 20000 in
theorem ggX7_anew_X7_missing : GoodIn wsX7_anew wsX7_missing := goodIn_r _ [12, 2, 13, 14, 15, 7, 16, 5, 6, 8, 186, 187, 188, 189, 190, 191, 192, 193, 194, 195, 196, 197, 198, 199, 200, 201] rfl (by decide +kernel)
set_option maxRecDepth 20000 in
theorem gX7_anew_X7_missing : GoodIn wsX7_anew (wsV RX7 87 RX7 yX7_missing wsX7_missing) := goodIn_app (goodIn_of _ (by decide +kernel)) ggX7_anew_X7_missing
set_option maxRecDepth 20000 in
theorem ggX7_anew_J7_fill_d0a16 : GoodIn wsX7_anew wsJ7_fill_d0a16 := goodIn_r _ [20] rfl (by decide +kernel)
set_option maxRecDepth 20000 in
theorem gX7_anew_J7_fill_d0a16 : GoodIn wsX7_anew (va_wsS RX7 178 yJ7_fill_d0a16 wsJ7_fill_d0a16) := goodIn_app (goodIn_of _ (by decide +kernel)) ggX7_anew_J7_fill_d0a16
set_option maxRecDepth 20000 in
theorem ggX7_anew_X7_multiply : GoodIn wsX7_anew wsX7_multiply := goodIn_r _ [23] rfl (by decide +kernel)
set_option maxRecDepth 20000 in
theorem gX7_anew_X7_multiply : GoodIn wsX7_anew (va_wsS RX7 184 yX7_multiply wsX7_multiply) := goodIn_app (goodIn_of _ (by decide +kernel)) ggX7_anew_X7_multiply
set_option maxRecDepth 20000 in
theorem ggX7_anew_X0_number : GoodIn wsX7_anew wsX0_number := goodIn_r _ [28, 29, 194, 195, 196, 197, 198, 199, 200, 201] rfl (by decide +kernel)
set_option maxRecDepth 20000 in
theorem gX7_anew_X0_number : GoodIn wsX7_anew (wsV RX7 100 RX0 yX0_number wsX0_number) := goodIn_app (goodIn_of _ (by decide +kernel)) ggX7_anew_X0_number
set_option maxRecDepth 20000 in
theorem ggX7_anew_X1_lowerNumbers : GoodIn wsX7_anew wsX1_lowerNumbers := goodIn_r _ [33, 34, 35, 36, 32, 37, 38, 39, 40, 41, 42, 43, 44, 45, 46, 47, 48, 49, 50, 51, 52, 53, 54, 55, 56, 57, 58, 59, 60] rfl (by decide +kernel)
set_option maxRecDepth 20000 in
theorem gX7_anew_X1_lowerNumbers : GoodIn wsX7_anew (va_wsS RX7 188 yX1_lowerNumbers wsX1_lowerNumbers) := goodIn_app (goodIn_of _ (by decide +kernel)) ggX7_anew_X1_lowerNumbers
set_option maxRecDepth 20000 in
theorem ggX7_anew_X7_settle : GoodIn wsX7_anew wsX7_settle := goodIn_r _ [64, 2, 1, 65, 66, 67, 68, 69, 13, 70, 71, 72, 73, 74, 75, 76, 77, 78, 79, 80, 81, 82, 25, 26, 27, 28, 29, 83, 84, 85, 86, 87, 88, 89, 90, 91, 92, 93, 94, 95, 96, 97, 98, 99, 100, 101, 102, 103, 104, 105, 106, 107, 108, 109, 110, 111, 112, 113, 114, 115, 116, 117, 118, 119, 120, 121, 40, 122, 123, 124, 125, 126, 127, 128, 129, 130, 18, 19, 20, 131, 132, 133, 134, 135, 136, 137, 138, 139, 140, 141, 142, 143, 144, 145, 146, 147, 50, 148, 149, 150, 151, 152, 43, 44, 45, 46, 47, 48, 49, 51, 153, 53, 54, 154, 155, 156, 157, 158, 159, 160, 161, 162, 163, 164, 165, 166, 167, 168, 169, 170, 171, 172, 173, 174, 175, 176, 177, 178, 179, 180, 181, 39, 41, 182, 183, 184, 185, 186, 187, 188, 189, 190, 191, 192, 193, 194, 195, 196, 197, 198, 199, 200, 201, 202, 203, 204, 205, 206, 207] rfl (by decide +kernel)
set_option maxRecDepth 20000 in
theorem gX7_anew_X7_settle : GoodIn wsX7_anew (wsV RX7 83 RX7 yX7_settle wsX7_settle) := goodIn_app (goodIn_of _ (by decide +kernel)) ggX7_anew_X7_settle
theorem dX7_anew_0 : decode cX7_anew 0 = .ok (.iload_n 2, 1) := by decide +kernel
theorem dX7_anew_1 : decode cX7_anew 1 = .ok (.bipush (-5), 2) := by decide +kernel
theorem dX7_anew_3 : decode cX7_anew 3 = .ok (.iconst 5, 1) := by decide +kernel
theorem dX7_anew_4 : decode cX7_anew 4 = .ok (.invokestatic 54, 3) := by decide +kernel
theorem dX7_anew_7 : decode cX7_anew 7 = .ok (.ifCond .eq 39, 3) := by decide +kernel
theorem dX7_anew_10 : decode cX7_anew 10 = .ok (.iload_n 3, 1) := by decide +kernel
theorem dX7_anew_11 : decode cX7_anew 11 = .ok (.bipush (-5), 2) := by decide +kernel
theorem dX7_anew_13 : decode cX7_anew 13 = .ok (.iconst 5, 1) := by decide +kernel
theorem dX7_anew_14 : decode cX7_anew 14 = .ok (.invokestatic 54, 3) := by decide +kernel
theorem dX7_anew_17 : decode cX7_anew 17 = .ok (.ifCond .eq 29, 3) := by decide +kernel
theorem dX7_anew_20 : decode cX7_anew 20 = .ok (.iload 4, 2) := by decide +kernel
theorem dX7_anew_22 : decode cX7_anew 22 = .ok (.bipush (-5), 2) := by decide +kernel
theorem dX7_anew_24 : decode cX7_anew 24 = .ok (.iconst 5, 1) := by decide +kernel
theorem dX7_anew_25 : decode cX7_anew 25 = .ok (.invokestatic 54, 3) := by decide +kernel
theorem dX7_anew_28 : decode cX7_anew 28 = .ok (.ifCond .eq 18, 3) := by decide +kernel
theorem dX7_anew_31 : decode cX7_anew 31 = .ok (.iload 5, 2) := by decide +kernel
theorem dX7_anew_33 : decode cX7_anew 33 = .ok (.bipush (-5), 2) := by decide +kernel
theorem dX7_anew_35 : decode cX7_anew 35 = .ok (.iconst 5, 1) := by decide +kernel
theorem dX7_anew_36 : decode cX7_anew 36 = .ok (.invokestatic 54, 3) := by decide +kernel
theorem dX7_anew_39 : decode cX7_anew 39 = .ok (.ifCond .eq 7, 3) := by decide +kernel
theorem dX7_anew_42 : decode cX7_anew 42 = .ok (.iconst 1, 1) := by decide +kernel
theorem dX7_anew_43 : decode cX7_anew 43 = .ok (.goto 4, 3) := by decide +kernel
theorem dX7_anew_46 : decode cX7_anew 46 = .ok (.iconst 0, 1) := by decide +kernel
theorem dX7_anew_47 : decode cX7_anew 47 = .ok (.istore 6, 2) := by decide +kernel
theorem dX7_anew_49 : decode cX7_anew 49 = .ok (.iload 6, 2) := by decide +kernel
theorem dX7_anew_51 : decode cX7_anew 51 = .ok (.ifCond .eq 14, 3) := by decide +kernel
theorem dX7_anew_54 : decode cX7_anew 54 = .ok (.iload_n 2, 1) := by decide +kernel
theorem dX7_anew_55 : decode cX7_anew 55 = .ok (.iload 5, 2) := by decide +kernel
theorem dX7_anew_57 : decode cX7_anew 57 = .ok (.imul, 1) := by decide +kernel
theorem dX7_anew_58 : decode cX7_anew 58 = .ok (.iload_n 3, 1) := by decide +kernel
theorem dX7_anew_59 : decode cX7_anew 59 = .ok (.iload 4, 2) := by decide +kernel
theorem dX7_anew_61 : decode cX7_anew 61 = .ok (.imul, 1) := by decide +kernel
theorem dX7_anew_62 : decode cX7_anew 62 = .ok (.if_icmp .ne 5, 3) := by decide +kernel
theorem dX7_anew_65 : decode cX7_anew 65 = .ok (.iconst (-1), 1) := by decide +kernel
theorem dX7_anew_66 : decode cX7_anew 66 = .ok (.ireturn, 1) := by decide +kernel
theorem dX7_anew_67 : decode cX7_anew 67 = .ok (.aload_n 0, 1) := by decide +kernel
theorem dX7_anew_68 : decode cX7_anew 68 = .ok (.iload_n 1, 1) := by decide +kernel
theorem dX7_anew_69 : decode cX7_anew 69 = .ok (.invokevirtual 87, 3) := by decide +kernel
theorem dX7_anew_72 : decode cX7_anew 72 = .ok (.istore 7, 2) := by decide +kernel
theorem dX7_anew_74 : decode cX7_anew 74 = .ok (.iload 7, 2) := by decide +kernel
theorem dX7_anew_76 : decode cX7_anew 76 = .ok (.ifCond .eq 6, 3) := by decide +kernel
theorem dX7_anew_79 : decode cX7_anew 79 = .ok (.iload 7, 2) := by decide +kernel
theorem dX7_anew_81 : decode cX7_anew 81 = .ok (.ireturn, 1) := by decide +kernel
theorem dX7_anew_82 : decode cX7_anew 82 = .ok (.aload_n 0, 1) := by decide +kernel
theorem dX7_anew_83 : decode cX7_anew 83 = .ok (.getfield 42, 3) := by decide +kernel
theorem dX7_anew_86 : decode cX7_anew 86 = .ok (.lconst 0, 1) := by decide +kernel
theorem dX7_anew_87 : decode cX7_anew 87 = .ok (.invokestatic 178, 3) := by decide +kernel
theorem dX7_anew_90 : decode cX7_anew 90 = .ok (.iconst 0, 1) := by decide +kernel
theorem dX7_anew_91 : decode cX7_anew 91 = .ok (.istore 8, 2) := by decide +kernel
theorem dX7_anew_93 : decode cX7_anew 93 = .ok (.iload 8, 2) := by decide +kernel
theorem dX7_anew_95 : decode cX7_anew 95 = .ok (.aload_n 0, 1) := by decide +kernel
theorem dX7_anew_96 : decode cX7_anew 96 = .ok (.getfield 18, 3) := by decide +kernel
theorem dX7_anew_99 : decode cX7_anew 99 = .ok (.iload_n 1, 1) := by decide +kernel
theorem dX7_anew_100 : decode cX7_anew 100 = .ok (.aaload, 1) := by decide +kernel
theorem dX7_anew_101 : decode cX7_anew 101 = .ok (.getfield 97, 3) := by decide +kernel
theorem dX7_anew_104 : decode cX7_anew 104 = .ok (.if_icmp .gt 115, 3) := by decide +kernel
theorem dX7_anew_107 : decode cX7_anew 107 = .ok (.iload 8, 2) := by decide +kernel
theorem dX7_anew_109 : decode cX7_anew 109 = .ok (.iconst 4, 1) := by decide +kernel
theorem dX7_anew_110 : decode cX7_anew 110 = .ok (.if_icmp .ge 109, 3) := by decide +kernel
theorem dX7_anew_113 : decode cX7_anew 113 = .ok (.aload_n 0, 1) := by decide +kernel
theorem dX7_anew_114 : decode cX7_anew 114 = .ok (.getfield 46, 3) := by decide +kernel
theorem dX7_anew_117 : decode cX7_anew 117 = .ok (.lconst 0, 1) := by decide +kernel
theorem dX7_anew_118 : decode cX7_anew 118 = .ok (.invokestatic 178, 3) := by decide +kernel
theorem dX7_anew_121 : decode cX7_anew 121 = .ok (.aload_n 0, 1) := by decide +kernel
theorem dX7_anew_122 : decode cX7_anew 122 = .ok (.getfield 46, 3) := by decide +kernel
theorem dX7_anew_125 : decode cX7_anew 125 = .ok (.iconst 0, 1) := by decide +kernel
theorem dX7_anew_126 : decode cX7_anew 126 = .ok (.lconst 1, 1) := by decide +kernel
theorem dX7_anew_127 : decode cX7_anew 127 = .ok (.lastore, 1) := by decide +kernel
theorem dX7_anew_128 : decode cX7_anew 128 = .ok (.aload_n 0, 1) := by decide +kernel
theorem dX7_anew_129 : decode cX7_anew 129 = .ok (.getfield 46, 3) := by decide +kernel
theorem dX7_anew_132 : decode cX7_anew 132 = .ok (.iload_n 2, 1) := by decide +kernel
theorem dX7_anew_133 : decode cX7_anew 133 = .ok (.iload_n 3, 1) := by decide +kernel
theorem dX7_anew_134 : decode cX7_anew 134 = .ok (.iload 8, 2) := by decide +kernel
theorem dX7_anew_136 : decode cX7_anew 136 = .ok (.invokestatic 184, 3) := by decide +kernel
theorem dX7_anew_139 : decode cX7_anew 139 = .ok (.aload_n 0, 1) := by decide +kernel
theorem dX7_anew_140 : decode cX7_anew 140 = .ok (.getfield 46, 3) := by decide +kernel
theorem dX7_anew_143 : decode cX7_anew 143 = .ok (.iload 4, 2) := by decide +kernel
theorem dX7_anew_145 : decode cX7_anew 145 = .ok (.iload 5, 2) := by decide +kernel
theorem dX7_anew_147 : decode cX7_anew 147 = .ok (.aload_n 0, 1) := by decide +kernel
theorem dX7_anew_148 : decode cX7_anew 148 = .ok (.getfield 18, 3) := by decide +kernel
theorem dX7_anew_151 : decode cX7_anew 151 = .ok (.iload_n 1, 1) := by decide +kernel
theorem dX7_anew_152 : decode cX7_anew 152 = .ok (.aaload, 1) := by decide +kernel
theorem dX7_anew_153 : decode cX7_anew 153 = .ok (.getfield 97, 3) := by decide +kernel
theorem dX7_anew_156 : decode cX7_anew 156 = .ok (.iload 8, 2) := by decide +kernel
theorem dX7_anew_158 : decode cX7_anew 158 = .ok (.isub, 1) := by decide +kernel
theorem dX7_anew_159 : decode cX7_anew 159 = .ok (.invokestatic 184, 3) := by decide +kernel
theorem dX7_anew_162 : decode cX7_anew 162 = .ok (.iconst 0, 1) := by decide +kernel
theorem dX7_anew_163 : decode cX7_anew 163 = .ok (.istore 9, 2) := by decide +kernel
theorem dX7_anew_165 : decode cX7_anew 165 = .ok (.iload 9, 2) := by decide +kernel
theorem dX7_anew_167 : decode cX7_anew 167 = .ok (.bipush 12, 2) := by decide +kernel
theorem dX7_anew_169 : decode cX7_anew 169 = .ok (.if_icmp .ge 44, 3) := by decide +kernel
theorem dX7_anew_172 : decode cX7_anew 172 = .ok (.aload_n 0, 1) := by decide +kernel
theorem dX7_anew_173 : decode cX7_anew 173 = .ok (.getfield 42, 3) := by decide +kernel
theorem dX7_anew_176 : decode cX7_anew 176 = .ok (.iload 9, 2) := by decide +kernel
theorem dX7_anew_178 : decode cX7_anew 178 = .ok (.dup2, 1) := by decide +kernel
theorem dX7_anew_179 : decode cX7_anew 179 = .ok (.laload, 1) := by decide +kernel
theorem dX7_anew_180 : decode cX7_anew 180 = .ok (.aload_n 0, 1) := by decide +kernel
theorem dX7_anew_181 : decode cX7_anew 181 = .ok (.getfield 18, 3) := by decide +kernel
theorem dX7_anew_184 : decode cX7_anew 184 = .ok (.iload_n 1, 1) := by decide +kernel
theorem dX7_anew_185 : decode cX7_anew 185 = .ok (.aaload, 1) := by decide +kernel
theorem dX7_anew_186 : decode cX7_anew 186 = .ok (.iload 9, 2) := by decide +kernel
theorem dX7_anew_188 : decode cX7_anew 188 = .ok (.iconst 4, 1) := by decide +kernel
theorem dX7_anew_189 : decode cX7_anew 189 = .ok (.idiv, 1) := by decide +kernel
theorem dX7_anew_190 : decode cX7_anew 190 = .ok (.iload 8, 2) := by decide +kernel
theorem dX7_anew_192 : decode cX7_anew 192 = .ok (.invokevirtual 100, 3) := by decide +kernel
theorem dX7_anew_195 : decode cX7_anew 195 = .ok (.aload_n 0, 1) := by decide +kernel
theorem dX7_anew_196 : decode cX7_anew 196 = .ok (.getfield 46, 3) := by decide +kernel
theorem dX7_anew_199 : decode cX7_anew 199 = .ok (.iload 9, 2) := by decide +kernel
theorem dX7_anew_201 : decode cX7_anew 201 = .ok (.iconst 4, 1) := by decide +kernel
theorem dX7_anew_202 : decode cX7_anew 202 = .ok (.irem, 1) := by decide +kernel
theorem dX7_anew_203 : decode cX7_anew 203 = .ok (.laload, 1) := by decide +kernel
theorem dX7_anew_204 : decode cX7_anew 204 = .ok (.lmul, 1) := by decide +kernel
theorem dX7_anew_205 : decode cX7_anew 205 = .ok (.ladd, 1) := by decide +kernel
theorem dX7_anew_206 : decode cX7_anew 206 = .ok (.lastore, 1) := by decide +kernel
theorem dX7_anew_207 : decode cX7_anew 207 = .ok (.iinc 9 1, 3) := by decide +kernel
theorem dX7_anew_210 : decode cX7_anew 210 = .ok (.goto (-45), 3) := by decide +kernel
theorem dX7_anew_213 : decode cX7_anew 213 = .ok (.iinc 8 1, 3) := by decide +kernel
theorem dX7_anew_216 : decode cX7_anew 216 = .ok (.goto (-123), 3) := by decide +kernel
theorem dX7_anew_219 : decode cX7_anew 219 = .ok (.aload_n 0, 1) := by decide +kernel
theorem dX7_anew_220 : decode cX7_anew 220 = .ok (.getfield 42, 3) := by decide +kernel
theorem dX7_anew_223 : decode cX7_anew 223 = .ok (.invokestatic 188, 3) := by decide +kernel
theorem dX7_anew_226 : decode cX7_anew 226 = .ok (.ifCond .eq 11, 3) := by decide +kernel
theorem dX7_anew_229 : decode cX7_anew 229 = .ok (.aload_n 0, 1) := by decide +kernel
theorem dX7_anew_230 : decode cX7_anew 230 = .ok (.iload_n 1, 1) := by decide +kernel
theorem dX7_anew_231 : decode cX7_anew 231 = .ok (.invokevirtual 83, 3) := by decide +kernel
theorem dX7_anew_234 : decode cX7_anew 234 = .ok (.goto 5, 3) := by decide +kernel
theorem dX7_anew_237 : decode cX7_anew 237 = .ok (.bipush (-2), 2) := by decide +kernel
theorem dX7_anew_239 : decode cX7_anew 239 = .ok (.ireturn, 1) := by decide +kernel
set_option maxRecDepth 20000 in
theorem ggX7_move_X7_within : GoodIn wsX7_move wsX7_within := goodIn_r _ [6] rfl (by decide +kernel)
set_option maxRecDepth 20000 in
theorem gX7_move_X7_within : GoodIn wsX7_move (va_wsS RX7 54 yX7_within wsX7_within) := goodIn_app (goodIn_of _ (by decide +kernel)) ggX7_move_X7_within
set_option maxRecDepth 20000 in
theorem ggX7_move_X7_missing : GoodIn wsX7_move wsX7_missing := goodIn_r _ [10, 2, 11, 12, 13, 5, 14, 3, 4, 6, 181, 182, 183, 184, 185, 186, 187, 188, 189, 190, 191, 192, 193, 194, 195, 196] rfl (by decide +kernel)
set_option maxRecDepth 20000 in
theorem gX7_move_X7_missing : GoodIn wsX7_move (wsV RX7 87 RX7 yX7_missing wsX7_missing) := goodIn_app (goodIn_of _ (by decide +kernel)) ggX7_move_X7_missing
set_option maxRecDepth 20000 in
theorem ggX7_move_X0_combined : GoodIn wsX7_move wsX0_combined := goodIn_r _ [19, 20, 21, 22, 18, 23, 24, 189, 190, 191, 192, 193, 194, 195, 196] rfl (by decide +kernel)
set_option maxRecDepth 20000 in
theorem gX7_move_X0_combined : GoodIn wsX7_move (wsV RX7 154 RX0 yX0_combined wsX0_combined) := goodIn_app (goodIn_of _ (by decide +kernel)) ggX7_move_X0_combined
set_option maxRecDepth 20000 in
theorem ggX7_move_X0_number : GoodIn wsX7_move wsX0_number := goodIn_r _ [23, 24, 189, 190, 191, 192, 193, 194, 195, 196] rfl (by decide +kernel)
set_option maxRecDepth 20000 in
theorem gX7_move_X0_number : GoodIn wsX7_move (wsV RX7 100 RX0 yX0_number wsX0_number) := goodIn_app (goodIn_of _ (by decide +kernel)) ggX7_move_X0_number
set_option maxRecDepth 20000 in
theorem ggX7_move_X1_lowerNumbers : GoodIn wsX7_move wsX1_lowerNumbers := goodIn_r _ [29, 30, 31, 32, 28, 33, 34, 35, 36, 37, 38, 39, 40, 41, 42, 43, 44, 45, 46, 47, 48, 49, 50, 51, 52, 53, 54, 55, 56] rfl (by decide +kernel)
set_option maxRecDepth 20000 in
theorem gX7_move_X1_lowerNumbers : GoodIn wsX7_move (va_wsS RX7 188 yX1_lowerNumbers wsX1_lowerNumbers) := goodIn_app (goodIn_of _ (by decide +kernel)) ggX7_move_X1_lowerNumbers
set_option maxRecDepth 20000 in
theorem ggX7_move_X7_settle : GoodIn wsX7_move wsX7_settle := goodIn_r _ [60, 2, 1, 61, 62, 63, 64, 65, 11, 66, 67, 68, 69, 70, 71, 72, 73, 74, 75, 76, 77, 78, 21, 22, 18, 23, 24, 79, 80, 81, 82, 83, 84, 85, 86, 87, 88, 89, 90, 91, 92, 93, 94, 95, 96, 97, 98, 99, 100, 101, 102, 103, 104, 105, 106, 107, 16, 17, 19, 20, 108, 109, 110, 111, 112, 113, 36, 114, 115, 116, 117, 118, 119, 120, 121, 122, 123, 124, 125, 126, 127, 128, 129, 130, 131, 132, 133, 134, 135, 136, 137, 138, 139, 140, 141, 142, 46, 143, 144, 145, 146, 147, 39, 40, 41, 42, 43, 44, 45, 47, 148, 49, 50, 149, 150, 151, 152, 153, 154, 155, 156, 157, 158, 159, 160, 161, 162, 163, 164, 165, 166, 167, 168, 169, 170, 171, 172, 173, 174, 175, 176, 35, 37, 177, 178, 179, 180, 181, 182, 183, 184, 185, 186, 187, 188, 189, 190, 191, 192, 193, 194, 195, 196, 197, 198, 199, 200, 201, 202] rfl (by decide +kernel)
set_option maxRecDepth 20000 in
theorem gX7_move_X7_settle : GoodIn wsX7_move (wsV RX7 83 RX7 yX7_settle wsX7_settle) := goodIn_app (goodIn_of _ (by decide +kernel)) ggX7_move_X7_settle
theorem dX7_move_0 : decode cX7_move 0 = .ok (.iload_n 2, 1) := by decide +kernel
theorem dX7_move_1 : decode cX7_move 1 = .ok (.bipush (-9), 2) := by decide +kernel
theorem dX7_move_3 : decode cX7_move 3 = .ok (.bipush 9, 2) := by decide +kernel
theorem dX7_move_5 : decode cX7_move 5 = .ok (.invokestatic 54, 3) := by decide +kernel
theorem dX7_move_8 : decode cX7_move 8 = .ok (.ifCond .eq 66, 3) := by decide +kernel
theorem dX7_move_11 : decode cX7_move 11 = .ok (.iload_n 3, 1) := by decide +kernel
theorem dX7_move_12 : decode cX7_move 12 = .ok (.bipush (-9), 2) := by decide +kernel
theorem dX7_move_14 : decode cX7_move 14 = .ok (.bipush 9, 2) := by decide +kernel
theorem dX7_move_16 : decode cX7_move 16 = .ok (.invokestatic 54, 3) := by decide +kernel
theorem dX7_move_19 : decode cX7_move 19 = .ok (.ifCond .eq 55, 3) := by decide +kernel
theorem dX7_move_22 : decode cX7_move 22 = .ok (.iload 4, 2) := by decide +kernel
theorem dX7_move_24 : decode cX7_move 24 = .ok (.bipush (-9), 2) := by decide +kernel
theorem dX7_move_26 : decode cX7_move 26 = .ok (.bipush 9, 2) := by decide +kernel
theorem dX7_move_28 : decode cX7_move 28 = .ok (.invokestatic 54, 3) := by decide +kernel
theorem dX7_move_31 : decode cX7_move 31 = .ok (.ifCond .eq 43, 3) := by decide +kernel
theorem dX7_move_34 : decode cX7_move 34 = .ok (.iload 5, 2) := by decide +kernel
theorem dX7_move_36 : decode cX7_move 36 = .ok (.bipush (-9), 2) := by decide +kernel
theorem dX7_move_38 : decode cX7_move 38 = .ok (.bipush 9, 2) := by decide +kernel
theorem dX7_move_40 : decode cX7_move 40 = .ok (.invokestatic 54, 3) := by decide +kernel
theorem dX7_move_43 : decode cX7_move 43 = .ok (.ifCond .eq 31, 3) := by decide +kernel
theorem dX7_move_46 : decode cX7_move 46 = .ok (.iload 6, 2) := by decide +kernel
theorem dX7_move_48 : decode cX7_move 48 = .ok (.bipush (-9), 2) := by decide +kernel
theorem dX7_move_50 : decode cX7_move 50 = .ok (.bipush 9, 2) := by decide +kernel
theorem dX7_move_52 : decode cX7_move 52 = .ok (.invokestatic 54, 3) := by decide +kernel
theorem dX7_move_55 : decode cX7_move 55 = .ok (.ifCond .eq 19, 3) := by decide +kernel
theorem dX7_move_58 : decode cX7_move 58 = .ok (.iload 7, 2) := by decide +kernel
theorem dX7_move_60 : decode cX7_move 60 = .ok (.bipush (-9), 2) := by decide +kernel
theorem dX7_move_62 : decode cX7_move 62 = .ok (.bipush 9, 2) := by decide +kernel
theorem dX7_move_64 : decode cX7_move 64 = .ok (.invokestatic 54, 3) := by decide +kernel
theorem dX7_move_67 : decode cX7_move 67 = .ok (.ifCond .eq 7, 3) := by decide +kernel
theorem dX7_move_70 : decode cX7_move 70 = .ok (.iconst 1, 1) := by decide +kernel
theorem dX7_move_71 : decode cX7_move 71 = .ok (.goto 4, 3) := by decide +kernel
theorem dX7_move_74 : decode cX7_move 74 = .ok (.iconst 0, 1) := by decide +kernel
theorem dX7_move_75 : decode cX7_move 75 = .ok (.istore 8, 2) := by decide +kernel
theorem dX7_move_77 : decode cX7_move 77 = .ok (.iload 8, 2) := by decide +kernel
theorem dX7_move_79 : decode cX7_move 79 = .ok (.ifCond .eq 14, 3) := by decide +kernel
theorem dX7_move_82 : decode cX7_move 82 = .ok (.iload_n 2, 1) := by decide +kernel
theorem dX7_move_83 : decode cX7_move 83 = .ok (.iload 5, 2) := by decide +kernel
theorem dX7_move_85 : decode cX7_move 85 = .ok (.imul, 1) := by decide +kernel
theorem dX7_move_86 : decode cX7_move 86 = .ok (.iload_n 3, 1) := by decide +kernel
theorem dX7_move_87 : decode cX7_move 87 = .ok (.iload 4, 2) := by decide +kernel
theorem dX7_move_89 : decode cX7_move 89 = .ok (.imul, 1) := by decide +kernel
theorem dX7_move_90 : decode cX7_move 90 = .ok (.if_icmp .ne 5, 3) := by decide +kernel
theorem dX7_move_93 : decode cX7_move 93 = .ok (.iconst (-1), 1) := by decide +kernel
theorem dX7_move_94 : decode cX7_move 94 = .ok (.ireturn, 1) := by decide +kernel
theorem dX7_move_95 : decode cX7_move 95 = .ok (.aload_n 0, 1) := by decide +kernel
theorem dX7_move_96 : decode cX7_move 96 = .ok (.iload_n 1, 1) := by decide +kernel
theorem dX7_move_97 : decode cX7_move 97 = .ok (.invokevirtual 87, 3) := by decide +kernel
theorem dX7_move_100 : decode cX7_move 100 = .ok (.istore 9, 2) := by decide +kernel
theorem dX7_move_102 : decode cX7_move 102 = .ok (.iload 9, 2) := by decide +kernel
theorem dX7_move_104 : decode cX7_move 104 = .ok (.ifCond .eq 6, 3) := by decide +kernel
theorem dX7_move_107 : decode cX7_move 107 = .ok (.iload 9, 2) := by decide +kernel
theorem dX7_move_109 : decode cX7_move 109 = .ok (.ireturn, 1) := by decide +kernel
theorem dX7_move_110 : decode cX7_move 110 = .ok (.iconst 0, 1) := by decide +kernel
theorem dX7_move_111 : decode cX7_move 111 = .ok (.istore 10, 2) := by decide +kernel
theorem dX7_move_113 : decode cX7_move 113 = .ok (.iload 10, 2) := by decide +kernel
theorem dX7_move_115 : decode cX7_move 115 = .ok (.iconst 4, 1) := by decide +kernel
theorem dX7_move_116 : decode cX7_move 116 = .ok (.if_icmp .ge 85, 3) := by decide +kernel
theorem dX7_move_119 : decode cX7_move 119 = .ok (.aload_n 0, 1) := by decide +kernel
theorem dX7_move_120 : decode cX7_move 120 = .ok (.getfield 42, 3) := by decide +kernel
theorem dX7_move_123 : decode cX7_move 123 = .ok (.iload 10, 2) := by decide +kernel
theorem dX7_move_125 : decode cX7_move 125 = .ok (.aload_n 0, 1) := by decide +kernel
theorem dX7_move_126 : decode cX7_move 126 = .ok (.getfield 18, 3) := by decide +kernel
theorem dX7_move_129 : decode cX7_move 129 = .ok (.iload_n 1, 1) := by decide +kernel
theorem dX7_move_130 : decode cX7_move 130 = .ok (.aaload, 1) := by decide +kernel
theorem dX7_move_131 : decode cX7_move 131 = .ok (.iload_n 2, 1) := by decide +kernel
theorem dX7_move_132 : decode cX7_move 132 = .ok (.i2l, 1) := by decide +kernel
theorem dX7_move_133 : decode cX7_move 133 = .ok (.iload_n 3, 1) := by decide +kernel
theorem dX7_move_134 : decode cX7_move 134 = .ok (.i2l, 1) := by decide +kernel
theorem dX7_move_135 : decode cX7_move 135 = .ok (.iload 6, 2) := by decide +kernel
theorem dX7_move_137 : decode cX7_move 137 = .ok (.i2l, 1) := by decide +kernel
theorem dX7_move_138 : decode cX7_move 138 = .ok (.iload 10, 2) := by decide +kernel
theorem dX7_move_140 : decode cX7_move 140 = .ok (.invokevirtual 154, 3) := by decide +kernel
theorem dX7_move_143 : decode cX7_move 143 = .ok (.lastore, 1) := by decide +kernel
theorem dX7_move_144 : decode cX7_move 144 = .ok (.aload_n 0, 1) := by decide +kernel
theorem dX7_move_145 : decode cX7_move 145 = .ok (.getfield 42, 3) := by decide +kernel
theorem dX7_move_148 : decode cX7_move 148 = .ok (.iconst 4, 1) := by decide +kernel
theorem dX7_move_149 : decode cX7_move 149 = .ok (.iload 10, 2) := by decide +kernel
theorem dX7_move_151 : decode cX7_move 151 = .ok (.iadd, 1) := by decide +kernel
theorem dX7_move_152 : decode cX7_move 152 = .ok (.aload_n 0, 1) := by decide +kernel
theorem dX7_move_153 : decode cX7_move 153 = .ok (.getfield 18, 3) := by decide +kernel
theorem dX7_move_156 : decode cX7_move 156 = .ok (.iload_n 1, 1) := by decide +kernel
theorem dX7_move_157 : decode cX7_move 157 = .ok (.aaload, 1) := by decide +kernel
theorem dX7_move_158 : decode cX7_move 158 = .ok (.iload 4, 2) := by decide +kernel
theorem dX7_move_160 : decode cX7_move 160 = .ok (.i2l, 1) := by decide +kernel
theorem dX7_move_161 : decode cX7_move 161 = .ok (.iload 5, 2) := by decide +kernel
theorem dX7_move_163 : decode cX7_move 163 = .ok (.i2l, 1) := by decide +kernel
theorem dX7_move_164 : decode cX7_move 164 = .ok (.iload 7, 2) := by decide +kernel
theorem dX7_move_166 : decode cX7_move 166 = .ok (.i2l, 1) := by decide +kernel
theorem dX7_move_167 : decode cX7_move 167 = .ok (.iload 10, 2) := by decide +kernel
theorem dX7_move_169 : decode cX7_move 169 = .ok (.invokevirtual 154, 3) := by decide +kernel
theorem dX7_move_172 : decode cX7_move 172 = .ok (.lastore, 1) := by decide +kernel
theorem dX7_move_173 : decode cX7_move 173 = .ok (.aload_n 0, 1) := by decide +kernel
theorem dX7_move_174 : decode cX7_move 174 = .ok (.getfield 42, 3) := by decide +kernel
theorem dX7_move_177 : decode cX7_move 177 = .ok (.bipush 8, 2) := by decide +kernel
theorem dX7_move_179 : decode cX7_move 179 = .ok (.iload 10, 2) := by decide +kernel
theorem dX7_move_181 : decode cX7_move 181 = .ok (.iadd, 1) := by decide +kernel
theorem dX7_move_182 : decode cX7_move 182 = .ok (.aload_n 0, 1) := by decide +kernel
theorem dX7_move_183 : decode cX7_move 183 = .ok (.getfield 18, 3) := by decide +kernel
theorem dX7_move_186 : decode cX7_move 186 = .ok (.iload_n 1, 1) := by decide +kernel
theorem dX7_move_187 : decode cX7_move 187 = .ok (.aaload, 1) := by decide +kernel
theorem dX7_move_188 : decode cX7_move 188 = .ok (.iconst 2, 1) := by decide +kernel
theorem dX7_move_189 : decode cX7_move 189 = .ok (.iload 10, 2) := by decide +kernel
theorem dX7_move_191 : decode cX7_move 191 = .ok (.invokevirtual 100, 3) := by decide +kernel
theorem dX7_move_194 : decode cX7_move 194 = .ok (.lastore, 1) := by decide +kernel
theorem dX7_move_195 : decode cX7_move 195 = .ok (.iinc 10 1, 3) := by decide +kernel
theorem dX7_move_198 : decode cX7_move 198 = .ok (.goto (-85), 3) := by decide +kernel
theorem dX7_move_201 : decode cX7_move 201 = .ok (.aload_n 0, 1) := by decide +kernel
theorem dX7_move_202 : decode cX7_move 202 = .ok (.getfield 42, 3) := by decide +kernel
theorem dX7_move_205 : decode cX7_move 205 = .ok (.invokestatic 188, 3) := by decide +kernel
theorem dX7_move_208 : decode cX7_move 208 = .ok (.ifCond .eq 11, 3) := by decide +kernel
theorem dX7_move_211 : decode cX7_move 211 = .ok (.aload_n 0, 1) := by decide +kernel
theorem dX7_move_212 : decode cX7_move 212 = .ok (.iload_n 1, 1) := by decide +kernel
theorem dX7_move_213 : decode cX7_move 213 = .ok (.invokevirtual 83, 3) := by decide +kernel
theorem dX7_move_216 : decode cX7_move 216 = .ok (.goto 5, 3) := by decide +kernel
theorem dX7_move_219 : decode cX7_move 219 = .ok (.bipush (-2), 2) := by decide +kernel
theorem dX7_move_221 : decode cX7_move 221 = .ok (.ireturn, 1) := by decide +kernel
set_option maxRecDepth 20000 in
theorem ggX7_copy_X7_isLine : GoodIn wsX7_copy wsX7_isLine := goodIn_r _ [11, 12, 13, 10, 14] rfl (by decide +kernel)
set_option maxRecDepth 20000 in
theorem gX7_copy_X7_isLine : GoodIn wsX7_copy (va_wsS RX7 69 yX7_isLine wsX7_isLine) := goodIn_app (goodIn_of _ (by decide +kernel)) ggX7_copy_X7_isLine
set_option maxRecDepth 20000 in
theorem ggX7_copy_X7_missing : GoodIn wsX7_copy wsX7_missing := goodIn_r _ [18, 1, 19, 8, 9, 10, 11, 12, 13, 14, 162, 163, 164, 165, 166, 167, 168, 169, 170, 171, 172, 173, 174, 175, 176, 177] rfl (by decide +kernel)
set_option maxRecDepth 20000 in
theorem gX7_copy_X7_missing : GoodIn wsX7_copy (wsV RX7 87 RX7 yX7_missing wsX7_missing) := goodIn_app (goodIn_of _ (by decide +kernel)) ggX7_copy_X7_missing
set_option maxRecDepth 20000 in
theorem ggX7_copy_X7_settle : GoodIn wsX7_copy wsX7_settle := goodIn_r _ [23, 1, 3, 2, 4, 5, 6, 7, 19, 24, 25, 26, 27, 28, 29, 30, 31, 32, 33, 34, 35, 36, 37, 38, 39, 40, 41, 42, 43, 44, 45, 46, 47, 48, 49, 50, 51, 52, 53, 54, 55, 56, 57, 58, 59, 60, 61, 62, 63, 64, 65, 66, 67, 68, 69, 70, 71, 72, 73, 74, 75, 76, 77, 78, 79, 80, 81, 82, 83, 84, 85, 86, 87, 88, 89, 90, 91, 92, 93, 94, 95, 96, 97, 98, 99, 100, 101, 102, 103, 104, 105, 106, 107, 108, 109, 110, 111, 112, 113, 114, 115, 116, 117, 118, 119, 120, 121, 122, 123, 124, 125, 126, 127, 128, 129, 130, 131, 132, 133, 134, 135, 136, 137, 138, 139, 140, 141, 142, 143, 144, 145, 146, 147, 148, 149, 150, 151, 152, 153, 154, 155, 156, 157, 158, 159, 160, 161, 162, 163, 164, 165, 166, 167, 168, 169, 170, 171, 172, 173, 174, 175, 176, 177, 178, 179, 180, 181, 182, 183] rfl (by decide +kernel)
set_option maxRecDepth 20000 in
theorem gX7_copy_X7_settle : GoodIn wsX7_copy (wsV RX7 83 RX7 yX7_settle wsX7_settle) := goodIn_app (goodIn_of _ (by decide +kernel)) ggX7_copy_X7_settle
theorem dX7_copy_0 : decode cX7_copy 0 = .ok (.iload_n 1, 1) := by decide +kernel
theorem dX7_copy_1 : decode cX7_copy 1 = .ok (.invokestatic 69, 3) := by decide +kernel
theorem dX7_copy_4 : decode cX7_copy 4 = .ok (.ifCond .eq 10, 3) := by decide +kernel
theorem dX7_copy_7 : decode cX7_copy 7 = .ok (.iload_n 2, 1) := by decide +kernel
theorem dX7_copy_8 : decode cX7_copy 8 = .ok (.invokestatic 69, 3) := by decide +kernel
theorem dX7_copy_11 : decode cX7_copy 11 = .ok (.ifCond .ne 5, 3) := by decide +kernel
theorem dX7_copy_14 : decode cX7_copy 14 = .ok (.iconst (-1), 1) := by decide +kernel
theorem dX7_copy_15 : decode cX7_copy 15 = .ok (.ireturn, 1) := by decide +kernel
theorem dX7_copy_16 : decode cX7_copy 16 = .ok (.aload_n 0, 1) := by decide +kernel
theorem dX7_copy_17 : decode cX7_copy 17 = .ok (.iload_n 1, 1) := by decide +kernel
theorem dX7_copy_18 : decode cX7_copy 18 = .ok (.invokevirtual 87, 3) := by decide +kernel
theorem dX7_copy_21 : decode cX7_copy 21 = .ok (.istore_n 3, 1) := by decide +kernel
theorem dX7_copy_22 : decode cX7_copy 22 = .ok (.iload_n 3, 1) := by decide +kernel
theorem dX7_copy_23 : decode cX7_copy 23 = .ok (.ifCond .eq 5, 3) := by decide +kernel
theorem dX7_copy_26 : decode cX7_copy 26 = .ok (.iload_n 3, 1) := by decide +kernel
theorem dX7_copy_27 : decode cX7_copy 27 = .ok (.ireturn, 1) := by decide +kernel
theorem dX7_copy_28 : decode cX7_copy 28 = .ok (.aload_n 0, 1) := by decide +kernel
theorem dX7_copy_29 : decode cX7_copy 29 = .ok (.getfield 18, 3) := by decide +kernel
theorem dX7_copy_32 : decode cX7_copy 32 = .ok (.iload_n 1, 1) := by decide +kernel
theorem dX7_copy_33 : decode cX7_copy 33 = .ok (.aaload, 1) := by decide +kernel
theorem dX7_copy_34 : decode cX7_copy 34 = .ok (.getfield 171, 3) := by decide +kernel
theorem dX7_copy_37 : decode cX7_copy 37 = .ok (.iconst 0, 1) := by decide +kernel
theorem dX7_copy_38 : decode cX7_copy 38 = .ok (.aload_n 0, 1) := by decide +kernel
theorem dX7_copy_39 : decode cX7_copy 39 = .ok (.getfield 42, 3) := by decide +kernel
theorem dX7_copy_42 : decode cX7_copy 42 = .ok (.iconst 0, 1) := by decide +kernel
theorem dX7_copy_43 : decode cX7_copy 43 = .ok (.bipush 12, 2) := by decide +kernel
theorem dX7_copy_45 : decode cX7_copy 45 = .ok (.invokestatic 191, 3) := by decide +kernel
theorem dX7_copy_48 : decode cX7_copy 48 = .ok (.aload_n 0, 1) := by decide +kernel
theorem dX7_copy_49 : decode cX7_copy 49 = .ok (.iload_n 2, 1) := by decide +kernel
theorem dX7_copy_50 : decode cX7_copy 50 = .ok (.invokevirtual 83, 3) := by decide +kernel
theorem dX7_copy_53 : decode cX7_copy 53 = .ok (.ireturn, 1) := by decide +kernel
set_option maxRecDepth 20000 in
theorem ggX7_sheet_X7_isSheet : GoodIn wsX7_sheet wsX7_isSheet := goodIn_r _ [8, 9, 10, 7, 11] rfl (by decide +kernel)
set_option maxRecDepth 20000 in
theorem gX7_sheet_X7_isSheet : GoodIn wsX7_sheet (va_wsS RX7 197 yX7_isSheet wsX7_isSheet) := goodIn_app (goodIn_of _ (by decide +kernel)) ggX7_sheet_X7_isSheet
set_option maxRecDepth 20000 in
theorem ggX7_sheet_X7_isLane : GoodIn wsX7_sheet wsX7_isLane := goodIn_r _ [14, 9, 10, 7, 11] rfl (by decide +kernel)
set_option maxRecDepth 20000 in
theorem gX7_sheet_X7_isLane : GoodIn wsX7_sheet (va_wsS RX7 200 yX7_isLane wsX7_isLane) := goodIn_app (goodIn_of _ (by decide +kernel)) ggX7_sheet_X7_isLane
set_option maxRecDepth 20000 in
theorem ggX7_sheet_J7_fill_d0a16 : GoodIn wsX7_sheet wsJ7_fill_d0a16 := goodIn_r _ [18] rfl (by decide +kernel)
set_option maxRecDepth 20000 in
theorem gX7_sheet_J7_fill_d0a16 : GoodIn wsX7_sheet (va_wsS RX7 178 yJ7_fill_d0a16 wsJ7_fill_d0a16) := goodIn_app (goodIn_of _ (by decide +kernel)) ggX7_sheet_J7_fill_d0a16
theorem dX7_sheet_0 : decode cX7_sheet 0 = .ok (.iload_n 1, 1) := by decide +kernel
theorem dX7_sheet_1 : decode cX7_sheet 1 = .ok (.invokestatic 197, 3) := by decide +kernel
theorem dX7_sheet_4 : decode cX7_sheet 4 = .ok (.ifCond .eq 16, 3) := by decide +kernel
theorem dX7_sheet_7 : decode cX7_sheet 7 = .ok (.iload_n 2, 1) := by decide +kernel
theorem dX7_sheet_8 : decode cX7_sheet 8 = .ok (.invokestatic 200, 3) := by decide +kernel
theorem dX7_sheet_11 : decode cX7_sheet 11 = .ok (.ifCond .eq 9, 3) := by decide +kernel
theorem dX7_sheet_14 : decode cX7_sheet 14 = .ok (.iload_n 3, 1) := by decide +kernel
theorem dX7_sheet_15 : decode cX7_sheet 15 = .ok (.bipush 20, 2) := by decide +kernel
theorem dX7_sheet_17 : decode cX7_sheet 17 = .ok (.if_icmp .le 5, 3) := by decide +kernel
theorem dX7_sheet_20 : decode cX7_sheet 20 = .ok (.iconst (-1), 1) := by decide +kernel
theorem dX7_sheet_21 : decode cX7_sheet 21 = .ok (.ireturn, 1) := by decide +kernel
theorem dX7_sheet_22 : decode cX7_sheet 22 = .ok (.iload_n 3, 1) := by decide +kernel
theorem dX7_sheet_23 : decode cX7_sheet 23 = .ok (.ifCond .ge 6, 3) := by decide +kernel
theorem dX7_sheet_26 : decode cX7_sheet 26 = .ok (.bipush (-14), 2) := by decide +kernel
theorem dX7_sheet_28 : decode cX7_sheet 28 = .ok (.ireturn, 1) := by decide +kernel
theorem dX7_sheet_29 : decode cX7_sheet 29 = .ok (.aload_n 0, 1) := by decide +kernel
theorem dX7_sheet_30 : decode cX7_sheet 30 = .ok (.getfield 24, 3) := by decide +kernel
theorem dX7_sheet_33 : decode cX7_sheet 33 = .ok (.iload_n 1, 1) := by decide +kernel
theorem dX7_sheet_34 : decode cX7_sheet 34 = .ok (.aaload, 1) := by decide +kernel
theorem dX7_sheet_35 : decode cX7_sheet 35 = .ok (.astore 4, 2) := by decide +kernel
theorem dX7_sheet_37 : decode cX7_sheet 37 = .ok (.aload 4, 2) := by decide +kernel
theorem dX7_sheet_39 : decode cX7_sheet 39 = .ok (.iload_n 2, 1) := by decide +kernel
theorem dX7_sheet_40 : decode cX7_sheet 40 = .ok (.putfield 203, 3) := by decide +kernel
theorem dX7_sheet_43 : decode cX7_sheet 43 = .ok (.aload 4, 2) := by decide +kernel
theorem dX7_sheet_45 : decode cX7_sheet 45 = .ok (.iload_n 3, 1) := by decide +kernel
theorem dX7_sheet_46 : decode cX7_sheet 46 = .ok (.putfield 206, 3) := by decide +kernel
theorem dX7_sheet_49 : decode cX7_sheet 49 = .ok (.aload 4, 2) := by decide +kernel
theorem dX7_sheet_51 : decode cX7_sheet 51 = .ok (.getfield 208, 3) := by decide +kernel
theorem dX7_sheet_54 : decode cX7_sheet 54 = .ok (.lconst 0, 1) := by decide +kernel
theorem dX7_sheet_55 : decode cX7_sheet 55 = .ok (.invokestatic 178, 3) := by decide +kernel
theorem dX7_sheet_58 : decode cX7_sheet 58 = .ok (.iload_n 3, 1) := by decide +kernel
theorem dX7_sheet_59 : decode cX7_sheet 59 = .ok (.ireturn, 1) := by decide +kernel
set_option maxRecDepth 20000 in
theorem ggX7_away_X7_isSheet : GoodIn wsX7_away wsX7_isSheet := goodIn_r _ [7, 8, 9, 6, 10] rfl (by decide +kernel)
set_option maxRecDepth 20000 in
theorem gX7_away_X7_isSheet : GoodIn wsX7_away (va_wsS RX7 197 yX7_isSheet wsX7_isSheet) := goodIn_app (goodIn_of _ (by decide +kernel)) ggX7_away_X7_isSheet
theorem dX7_away_0 : decode cX7_away 0 = .ok (.iload_n 1, 1) := by decide +kernel
theorem dX7_away_1 : decode cX7_away 1 = .ok (.invokestatic 197, 3) := by decide +kernel
theorem dX7_away_4 : decode cX7_away 4 = .ok (.ifCond .ne 5, 3) := by decide +kernel
theorem dX7_away_7 : decode cX7_away 7 = .ok (.iconst (-1), 1) := by decide +kernel
theorem dX7_away_8 : decode cX7_away 8 = .ok (.ireturn, 1) := by decide +kernel
theorem dX7_away_9 : decode cX7_away 9 = .ok (.aload_n 0, 1) := by decide +kernel
theorem dX7_away_10 : decode cX7_away 10 = .ok (.getfield 24, 3) := by decide +kernel
theorem dX7_away_13 : decode cX7_away 13 = .ok (.iload_n 1, 1) := by decide +kernel
theorem dX7_away_14 : decode cX7_away 14 = .ok (.aaload, 1) := by decide +kernel
theorem dX7_away_15 : decode cX7_away 15 = .ok (.astore_n 2, 1) := by decide +kernel
theorem dX7_away_16 : decode cX7_away 16 = .ok (.aload_n 2, 1) := by decide +kernel
theorem dX7_away_17 : decode cX7_away 17 = .ok (.getfield 203, 3) := by decide +kernel
theorem dX7_away_20 : decode cX7_away 20 = .ok (.iconst (-1), 1) := by decide +kernel
theorem dX7_away_21 : decode cX7_away 21 = .ok (.if_icmp .ne 6, 3) := by decide +kernel
theorem dX7_away_24 : decode cX7_away 24 = .ok (.bipush (-11), 2) := by decide +kernel
theorem dX7_away_26 : decode cX7_away 26 = .ok (.ireturn, 1) := by decide +kernel
theorem dX7_away_27 : decode cX7_away 27 = .ok (.aload_n 2, 1) := by decide +kernel
theorem dX7_away_28 : decode cX7_away 28 = .ok (.iconst (-1), 1) := by decide +kernel
theorem dX7_away_29 : decode cX7_away 29 = .ok (.putfield 203, 3) := by decide +kernel
theorem dX7_away_32 : decode cX7_away 32 = .ok (.aload_n 2, 1) := by decide +kernel
theorem dX7_away_33 : decode cX7_away 33 = .ok (.getfield 206, 3) := by decide +kernel
theorem dX7_away_36 : decode cX7_away 36 = .ok (.ireturn, 1) := by decide +kernel
set_option maxRecDepth 20000 in
theorem ggX7_item_X7_unfit : GoodIn wsX7_item wsX7_unfit := goodIn_r _ [7, 1, 8, 9, 10, 11, 6, 12, 13, 14, 15, 16, 17, 18, 19, 20, 21, 22, 23, 24, 25, 26, 27, 28, 29] rfl (by decide +kernel)
set_option maxRecDepth 20000 in
theorem gX7_item_X7_unfit : GoodIn wsX7_item (wsV RX7 211 RX7 yX7_unfit wsX7_unfit) := goodIn_app (goodIn_of _ (by decide +kernel)) ggX7_item_X7_unfit
theorem dX7_item_0 : decode cX7_item 0 = .ok (.aload_n 0, 1) := by decide +kernel
theorem dX7_item_1 : decode cX7_item 1 = .ok (.iload_n 1, 1) := by decide +kernel
theorem dX7_item_2 : decode cX7_item 2 = .ok (.iload_n 2, 1) := by decide +kernel
theorem dX7_item_3 : decode cX7_item 3 = .ok (.iload_n 3, 1) := by decide +kernel
theorem dX7_item_4 : decode cX7_item 4 = .ok (.iconst 1, 1) := by decide +kernel
theorem dX7_item_5 : decode cX7_item 5 = .ok (.invokevirtual 211, 3) := by decide +kernel
theorem dX7_item_8 : decode cX7_item 8 = .ok (.istore 5, 2) := by decide +kernel
theorem dX7_item_10 : decode cX7_item 10 = .ok (.iload 5, 2) := by decide +kernel
theorem dX7_item_12 : decode cX7_item 12 = .ok (.ifCond .eq 6, 3) := by decide +kernel
theorem dX7_item_15 : decode cX7_item 15 = .ok (.iload 5, 2) := by decide +kernel
theorem dX7_item_17 : decode cX7_item 17 = .ok (.ireturn, 1) := by decide +kernel
theorem dX7_item_18 : decode cX7_item 18 = .ok (.aload_n 0, 1) := by decide +kernel
theorem dX7_item_19 : decode cX7_item 19 = .ok (.getfield 24, 3) := by decide +kernel
theorem dX7_item_22 : decode cX7_item 22 = .ok (.iload_n 1, 1) := by decide +kernel
theorem dX7_item_23 : decode cX7_item 23 = .ok (.aaload, 1) := by decide +kernel
theorem dX7_item_24 : decode cX7_item 24 = .ok (.getfield 208, 3) := by decide +kernel
theorem dX7_item_27 : decode cX7_item 27 = .ok (.iload_n 3, 1) := by decide +kernel
theorem dX7_item_28 : decode cX7_item 28 = .ok (.iload_n 2, 1) := by decide +kernel
theorem dX7_item_29 : decode cX7_item 29 = .ok (.ifCond .ne 10, 3) := by decide +kernel
theorem dX7_item_32 : decode cX7_item 32 = .ok (.iload 4, 2) := by decide +kernel
theorem dX7_item_34 : decode cX7_item 34 = .ok (.i2b, 1) := by decide +kernel
theorem dX7_item_35 : decode cX7_item 35 = .ok (.i2l, 1) := by decide +kernel
theorem dX7_item_36 : decode cX7_item 36 = .ok (.goto 6, 3) := by decide +kernel
theorem dX7_item_39 : decode cX7_item 39 = .ok (.iload 4, 2) := by decide +kernel
theorem dX7_item_41 : decode cX7_item 41 = .ok (.i2l, 1) := by decide +kernel
theorem dX7_item_42 : decode cX7_item 42 = .ok (.lastore, 1) := by decide +kernel
theorem dX7_item_43 : decode cX7_item 43 = .ok (.iconst 1, 1) := by decide +kernel
theorem dX7_item_44 : decode cX7_item 44 = .ok (.ireturn, 1) := by decide +kernel
set_option maxRecDepth 20000 in
theorem ggX7_terms_X7_isLine : GoodIn wsX7_terms wsX7_isLine := goodIn_r _ [13, 14, 15, 12, 16] rfl (by decide +kernel)
set_option maxRecDepth 20000 in
theorem gX7_terms_X7_isLine : GoodIn wsX7_terms (va_wsS RX7 69 yX7_isLine wsX7_isLine) := goodIn_app (goodIn_of _ (by decide +kernel)) ggX7_terms_X7_isLine
set_option maxRecDepth 20000 in
theorem ggX7_terms_X7_unfit : GoodIn wsX7_terms wsX7_unfit := goodIn_r _ [20, 1, 21, 22, 23, 24, 12, 25, 14, 15, 16, 26, 27, 28, 214, 215, 216, 217, 218, 219, 220, 221, 222, 223, 224] rfl (by decide +kernel)
set_option maxRecDepth 20000 in
theorem gX7_terms_X7_unfit : GoodIn wsX7_terms (wsV RX7 211 RX7 yX7_unfit wsX7_unfit) := goodIn_app (goodIn_of _ (by decide +kernel)) ggX7_terms_X7_unfit
set_option maxRecDepth 20000 in
theorem ggX7_terms_X6_widest : GoodIn wsX7_terms wsX6_widest := goodIn_r _ [32, 33, 34, 35, 36, 37, 38, 39] rfl (by decide +kernel)
set_option maxRecDepth 20000 in
theorem gX7_terms_X6_widest : GoodIn wsX7_terms (va_wsS RX7 215 yX6_widest wsX6_widest) := goodIn_app (goodIn_of _ (by decide +kernel)) ggX7_terms_X6_widest
set_option maxRecDepth 20000 in
theorem ggX7_terms_X1_make : GoodIn wsX7_terms wsX1_make := goodIn_r _ [44, 45, 46, 47, 5, 6, 7, 48, 49, 43, 50, 51, 52, 31, 53, 54, 55, 56, 57, 58, 59, 60, 61, 62, 63, 33, 34, 35, 36, 64, 65, 66, 67, 68, 69, 30, 32, 37, 38, 39, 70, 71, 72, 73, 74, 75, 76, 77, 78, 79, 80, 81, 82, 83, 84, 85, 225, 226, 227] rfl (by decide +kernel)
set_option maxRecDepth 20000 in
theorem gX7_terms_X1_make : GoodIn wsX7_terms (wsV RX7 80 RX1 yX1_make wsX1_make) := goodIn_app (goodIn_of _ (by decide +kernel)) ggX7_terms_X1_make
set_option maxRecDepth 20000 in
theorem ggX7_terms_X7_settle : GoodIn wsX7_terms wsX7_settle := goodIn_r _ [89, 90, 3, 91, 4, 5, 6, 7, 92, 93, 94, 95, 96, 97, 98, 99, 100, 101, 102, 103, 104, 105, 106, 107, 108, 109, 110, 111, 112, 113, 114, 115, 116, 117, 118, 119, 120, 121, 122, 123, 124, 125, 126, 127, 128, 129, 130, 131, 132, 133, 134, 135, 136, 137, 138, 139, 140, 141, 142, 143, 144, 145, 146, 147, 148, 149, 31, 150, 151, 152, 153, 154, 155, 156, 157, 158, 55, 56, 57, 159, 160, 161, 162, 163, 164, 165, 166, 167, 168, 169, 170, 171, 172, 173, 174, 175, 35, 176, 177, 178, 179, 180, 59, 60, 61, 62, 63, 33, 34, 36, 181, 84, 85, 182, 183, 184, 185, 186, 187, 188, 189, 190, 191, 192, 193, 194, 195, 196, 197, 198, 199, 200, 201, 202, 203, 204, 205, 206, 207, 208, 209, 52, 53, 210, 211, 212, 213, 214, 215, 216, 217, 218, 219, 220, 221, 228, 229, 230, 231, 232, 233, 234, 235, 236, 237, 238, 239, 240, 241] rfl (by decide +kernel)
set_option maxRecDepth 20000 in
theorem gX7_terms_X7_settle : GoodIn wsX7_terms (wsV RX7 83 RX7 yX7_settle wsX7_settle) := goodIn_app (goodIn_of _ (by decide +kernel)) ggX7_terms_X7_settle
theorem dX7_terms_0 : decode cX7_terms 0 = .ok (.iload_n 1, 1) := by decide +kernel
theorem dX7_terms_1 : decode cX7_terms 1 = .ok (.invokestatic 69, 3) := by decide +kernel
theorem dX7_terms_4 : decode cX7_terms 4 = .ok (.ifCond .ne 5, 3) := by decide +kernel
theorem dX7_terms_7 : decode cX7_terms 7 = .ok (.iconst (-1), 1) := by decide +kernel
theorem dX7_terms_8 : decode cX7_terms 8 = .ok (.ireturn, 1) := by decide +kernel
theorem dX7_terms_9 : decode cX7_terms 9 = .ok (.aload_n 0, 1) := by decide +kernel
theorem dX7_terms_10 : decode cX7_terms 10 = .ok (.iload_n 2, 1) := by decide +kernel
theorem dX7_terms_11 : decode cX7_terms 11 = .ok (.iload_n 3, 1) := by decide +kernel
theorem dX7_terms_12 : decode cX7_terms 12 = .ok (.iload 4, 2) := by decide +kernel
theorem dX7_terms_14 : decode cX7_terms 14 = .ok (.bipush 12, 2) := by decide +kernel
theorem dX7_terms_16 : decode cX7_terms 16 = .ok (.invokevirtual 211, 3) := by decide +kernel
theorem dX7_terms_19 : decode cX7_terms 19 = .ok (.istore 5, 2) := by decide +kernel
theorem dX7_terms_21 : decode cX7_terms 21 = .ok (.iload 5, 2) := by decide +kernel
theorem dX7_terms_23 : decode cX7_terms 23 = .ok (.ifCond .eq 6, 3) := by decide +kernel
theorem dX7_terms_26 : decode cX7_terms 26 = .ok (.iload 5, 2) := by decide +kernel
theorem dX7_terms_28 : decode cX7_terms 28 = .ok (.ireturn, 1) := by decide +kernel
theorem dX7_terms_29 : decode cX7_terms 29 = .ok (.aload_n 0, 1) := by decide +kernel
theorem dX7_terms_30 : decode cX7_terms 30 = .ok (.getfield 24, 3) := by decide +kernel
theorem dX7_terms_33 : decode cX7_terms 33 = .ok (.iload_n 2, 1) := by decide +kernel
theorem dX7_terms_34 : decode cX7_terms 34 = .ok (.aaload, 1) := by decide +kernel
theorem dX7_terms_35 : decode cX7_terms 35 = .ok (.getfield 208, 3) := by decide +kernel
theorem dX7_terms_38 : decode cX7_terms 38 = .ok (.iload 4, 2) := by decide +kernel
theorem dX7_terms_40 : decode cX7_terms 40 = .ok (.aload_n 0, 1) := by decide +kernel
theorem dX7_terms_41 : decode cX7_terms 41 = .ok (.getfield 42, 3) := by decide +kernel
theorem dX7_terms_44 : decode cX7_terms 44 = .ok (.iconst 0, 1) := by decide +kernel
theorem dX7_terms_45 : decode cX7_terms 45 = .ok (.bipush 12, 2) := by decide +kernel
theorem dX7_terms_47 : decode cX7_terms 47 = .ok (.invokestatic 191, 3) := by decide +kernel
theorem dX7_terms_50 : decode cX7_terms 50 = .ok (.aload_n 0, 1) := by decide +kernel
theorem dX7_terms_51 : decode cX7_terms 51 = .ok (.getfield 42, 3) := by decide +kernel
theorem dX7_terms_54 : decode cX7_terms 54 = .ok (.invokestatic 215, 3) := by decide +kernel
theorem dX7_terms_57 : decode cX7_terms 57 = .ok (.ldc2_w 219, 3) := by decide +kernel
theorem dX7_terms_60 : decode cX7_terms 60 = .ok (.lcmp, 1) := by decide +kernel
theorem dX7_terms_61 : decode cX7_terms 61 = .ok (.ifCond .gt 25, 3) := by decide +kernel
theorem dX7_terms_64 : decode cX7_terms 64 = .ok (.aload_n 0, 1) := by decide +kernel
theorem dX7_terms_65 : decode cX7_terms 65 = .ok (.getfield 31, 3) := by decide +kernel
theorem dX7_terms_68 : decode cX7_terms 68 = .ok (.aload_n 0, 1) := by decide +kernel
theorem dX7_terms_69 : decode cX7_terms 69 = .ok (.getfield 42, 3) := by decide +kernel
theorem dX7_terms_72 : decode cX7_terms 72 = .ok (.invokevirtual 80, 3) := by decide +kernel
theorem dX7_terms_75 : decode cX7_terms 75 = .ok (.ifCond .eq 11, 3) := by decide +kernel
theorem dX7_terms_78 : decode cX7_terms 78 = .ok (.aload_n 0, 1) := by decide +kernel
theorem dX7_terms_79 : decode cX7_terms 79 = .ok (.iload_n 1, 1) := by decide +kernel
theorem dX7_terms_80 : decode cX7_terms 80 = .ok (.invokevirtual 83, 3) := by decide +kernel
theorem dX7_terms_83 : decode cX7_terms 83 = .ok (.goto 5, 3) := by decide +kernel
theorem dX7_terms_86 : decode cX7_terms 86 = .ok (.bipush (-2), 2) := by decide +kernel
theorem dX7_terms_88 : decode cX7_terms 88 = .ok (.ireturn, 1) := by decide +kernel
theorem dX7_within_0 : decode cX7_within 0 = .ok (.iload_n 0, 1) := by decide +kernel
theorem dX7_within_1 : decode cX7_within 1 = .ok (.iload_n 1, 1) := by decide +kernel
theorem dX7_within_2 : decode cX7_within 2 = .ok (.if_icmp .lt 12, 3) := by decide +kernel
theorem dX7_within_5 : decode cX7_within 5 = .ok (.iload_n 0, 1) := by decide +kernel
theorem dX7_within_6 : decode cX7_within 6 = .ok (.iload_n 2, 1) := by decide +kernel
theorem dX7_within_7 : decode cX7_within 7 = .ok (.if_icmp .gt 7, 3) := by decide +kernel
theorem dX7_within_10 : decode cX7_within 10 = .ok (.iconst 1, 1) := by decide +kernel
theorem dX7_within_11 : decode cX7_within 11 = .ok (.goto 4, 3) := by decide +kernel
theorem dX7_within_14 : decode cX7_within 14 = .ok (.iconst 0, 1) := by decide +kernel
theorem dX7_within_15 : decode cX7_within 15 = .ok (.ireturn, 1) := by decide +kernel
set_option maxRecDepth 20000 in
theorem ggX7_isLine_X7_within : GoodIn wsX7_isLine wsX7_within := goodIn_r _ [4] rfl (by decide +kernel)
set_option maxRecDepth 20000 in
theorem gX7_isLine_X7_within : GoodIn wsX7_isLine (va_wsS RX7 54 yX7_within wsX7_within) := goodIn_app (goodIn_of _ (by decide +kernel)) ggX7_isLine_X7_within
theorem dX7_isLine_0 : decode cX7_isLine 0 = .ok (.iload_n 0, 1) := by decide +kernel
theorem dX7_isLine_1 : decode cX7_isLine 1 = .ok (.iconst 0, 1) := by decide +kernel
theorem dX7_isLine_2 : decode cX7_isLine 2 = .ok (.iconst 3, 1) := by decide +kernel
theorem dX7_isLine_3 : decode cX7_isLine 3 = .ok (.invokestatic 54, 3) := by decide +kernel
theorem dX7_isLine_6 : decode cX7_isLine 6 = .ok (.ireturn, 1) := by decide +kernel
set_option maxRecDepth 20000 in
theorem ggX7_isSheet_X7_within : GoodIn wsX7_isSheet wsX7_within := goodIn_r _ [4] rfl (by decide +kernel)
set_option maxRecDepth 20000 in
theorem gX7_isSheet_X7_within : GoodIn wsX7_isSheet (va_wsS RX7 54 yX7_within wsX7_within) := goodIn_app (goodIn_of _ (by decide +kernel)) ggX7_isSheet_X7_within
theorem dX7_isSheet_0 : decode cX7_isSheet 0 = .ok (.iload_n 0, 1) := by decide +kernel
theorem dX7_isSheet_1 : decode cX7_isSheet 1 = .ok (.iconst 0, 1) := by decide +kernel
theorem dX7_isSheet_2 : decode cX7_isSheet 2 = .ok (.iconst 3, 1) := by decide +kernel
theorem dX7_isSheet_3 : decode cX7_isSheet 3 = .ok (.invokestatic 54, 3) := by decide +kernel
theorem dX7_isSheet_6 : decode cX7_isSheet 6 = .ok (.ireturn, 1) := by decide +kernel
set_option maxRecDepth 20000 in
theorem ggX7_isLane_X7_within : GoodIn wsX7_isLane wsX7_within := goodIn_r _ [4] rfl (by decide +kernel)
set_option maxRecDepth 20000 in
theorem gX7_isLane_X7_within : GoodIn wsX7_isLane (va_wsS RX7 54 yX7_within wsX7_within) := goodIn_app (goodIn_of _ (by decide +kernel)) ggX7_isLane_X7_within
theorem dX7_isLane_0 : decode cX7_isLane 0 = .ok (.iload_n 0, 1) := by decide +kernel
theorem dX7_isLane_1 : decode cX7_isLane 1 = .ok (.iconst 0, 1) := by decide +kernel
theorem dX7_isLane_2 : decode cX7_isLane 2 = .ok (.iconst 2, 1) := by decide +kernel
theorem dX7_isLane_3 : decode cX7_isLane 3 = .ok (.invokestatic 54, 3) := by decide +kernel
theorem dX7_isLane_6 : decode cX7_isLane 6 = .ok (.ireturn, 1) := by decide +kernel
set_option maxRecDepth 20000 in
theorem ggX7_isLetter_X7_within : GoodIn wsX7_isLetter wsX7_within := goodIn_r _ [4] rfl (by decide +kernel)
set_option maxRecDepth 20000 in
theorem gX7_isLetter_X7_within : GoodIn wsX7_isLetter (va_wsS RX7 54 yX7_within wsX7_within) := goodIn_app (goodIn_of _ (by decide +kernel)) ggX7_isLetter_X7_within
theorem dX7_isLetter_0 : decode cX7_isLetter 0 = .ok (.iload_n 0, 1) := by decide +kernel
theorem dX7_isLetter_1 : decode cX7_isLetter 1 = .ok (.bipush (-20), 2) := by decide +kernel
theorem dX7_isLetter_3 : decode cX7_isLetter 3 = .ok (.bipush 20, 2) := by decide +kernel
theorem dX7_isLetter_5 : decode cX7_isLetter 5 = .ok (.invokestatic 54, 3) := by decide +kernel
theorem dX7_isLetter_8 : decode cX7_isLetter 8 = .ok (.ifCond .eq 17, 3) := by decide +kernel
theorem dX7_isLetter_11 : decode cX7_isLetter 11 = .ok (.iload_n 1, 1) := by decide +kernel
theorem dX7_isLetter_12 : decode cX7_isLetter 12 = .ok (.iconst 1, 1) := by decide +kernel
theorem dX7_isLetter_13 : decode cX7_isLetter 13 = .ok (.bipush 20, 2) := by decide +kernel
theorem dX7_isLetter_15 : decode cX7_isLetter 15 = .ok (.invokestatic 54, 3) := by decide +kernel
theorem dX7_isLetter_18 : decode cX7_isLetter 18 = .ok (.ifCond .eq 7, 3) := by decide +kernel
theorem dX7_isLetter_21 : decode cX7_isLetter 21 = .ok (.iconst 1, 1) := by decide +kernel
theorem dX7_isLetter_22 : decode cX7_isLetter 22 = .ok (.goto 4, 3) := by decide +kernel
theorem dX7_isLetter_25 : decode cX7_isLetter 25 = .ok (.iconst 0, 1) := by decide +kernel
theorem dX7_isLetter_26 : decode cX7_isLetter 26 = .ok (.ireturn, 1) := by decide +kernel
set_option maxRecDepth 20000 in
theorem ggX7_missing_X7_isLine : GoodIn wsX7_missing wsX7_isLine := goodIn_r _ [6, 7, 8, 5, 9] rfl (by decide +kernel)
set_option maxRecDepth 20000 in
theorem gX7_missing_X7_isLine : GoodIn wsX7_missing (va_wsS RX7 69 yX7_isLine wsX7_isLine) := goodIn_app (goodIn_of _ (by decide +kernel)) ggX7_missing_X7_isLine
theorem dX7_missing_0 : decode cX7_missing 0 = .ok (.iload_n 1, 1) := by decide +kernel
theorem dX7_missing_1 : decode cX7_missing 1 = .ok (.invokestatic 69, 3) := by decide +kernel
theorem dX7_missing_4 : decode cX7_missing 4 = .ok (.ifCond .ne 5, 3) := by decide +kernel
theorem dX7_missing_7 : decode cX7_missing 7 = .ok (.iconst (-1), 1) := by decide +kernel
theorem dX7_missing_8 : decode cX7_missing 8 = .ok (.ireturn, 1) := by decide +kernel
theorem dX7_missing_9 : decode cX7_missing 9 = .ok (.aload_n 0, 1) := by decide +kernel
theorem dX7_missing_10 : decode cX7_missing 10 = .ok (.getfield 18, 3) := by decide +kernel
theorem dX7_missing_13 : decode cX7_missing 13 = .ok (.iload_n 1, 1) := by decide +kernel
theorem dX7_missing_14 : decode cX7_missing 14 = .ok (.aaload, 1) := by decide +kernel
theorem dX7_missing_15 : decode cX7_missing 15 = .ok (.getfield 90, 3) := by decide +kernel
theorem dX7_missing_18 : decode cX7_missing 18 = .ok (.ifCond .eq 7, 3) := by decide +kernel
theorem dX7_missing_21 : decode cX7_missing 21 = .ok (.iconst 0, 1) := by decide +kernel
theorem dX7_missing_22 : decode cX7_missing 22 = .ok (.goto 5, 3) := by decide +kernel
theorem dX7_missing_25 : decode cX7_missing 25 = .ok (.bipush (-2), 2) := by decide +kernel
theorem dX7_missing_27 : decode cX7_missing 27 = .ok (.ireturn, 1) := by decide +kernel
set_option maxRecDepth 20000 in
theorem ggX7_pointless_X7_missing : GoodIn wsX7_pointless wsX7_missing := goodIn_r _ [7, 1, 8, 9, 10, 6, 11, 12, 13, 14, 15, 16, 17, 18, 19, 20, 21, 22, 23, 24, 25, 26, 27, 28, 29, 30] rfl (by decide +kernel)
set_option maxRecDepth 20000 in
theorem gX7_pointless_X7_missing : GoodIn wsX7_pointless (wsV RX7 87 RX7 yX7_missing wsX7_missing) := goodIn_app (goodIn_of _ (by decide +kernel)) ggX7_pointless_X7_missing
theorem dX7_pointless_0 : decode cX7_pointless 0 = .ok (.aload_n 0, 1) := by decide +kernel
theorem dX7_pointless_1 : decode cX7_pointless 1 = .ok (.iload_n 1, 1) := by decide +kernel
theorem dX7_pointless_2 : decode cX7_pointless 2 = .ok (.invokevirtual 87, 3) := by decide +kernel
theorem dX7_pointless_5 : decode cX7_pointless 5 = .ok (.istore_n 2, 1) := by decide +kernel
theorem dX7_pointless_6 : decode cX7_pointless 6 = .ok (.iload_n 2, 1) := by decide +kernel
theorem dX7_pointless_7 : decode cX7_pointless 7 = .ok (.ifCond .eq 5, 3) := by decide +kernel
theorem dX7_pointless_10 : decode cX7_pointless 10 = .ok (.iload_n 2, 1) := by decide +kernel
theorem dX7_pointless_11 : decode cX7_pointless 11 = .ok (.ireturn, 1) := by decide +kernel
theorem dX7_pointless_12 : decode cX7_pointless 12 = .ok (.aload_n 0, 1) := by decide +kernel
theorem dX7_pointless_13 : decode cX7_pointless 13 = .ok (.getfield 18, 3) := by decide +kernel
theorem dX7_pointless_16 : decode cX7_pointless 16 = .ok (.iload_n 1, 1) := by decide +kernel
theorem dX7_pointless_17 : decode cX7_pointless 17 = .ok (.aaload, 1) := by decide +kernel
theorem dX7_pointless_18 : decode cX7_pointless 18 = .ok (.getfield 94, 3) := by decide +kernel
theorem dX7_pointless_21 : decode cX7_pointless 21 = .ok (.ifCond .ne 8, 3) := by decide +kernel
theorem dX7_pointless_24 : decode cX7_pointless 24 = .ok (.bipush (-4), 2) := by decide +kernel
theorem dX7_pointless_26 : decode cX7_pointless 26 = .ok (.goto 4, 3) := by decide +kernel
theorem dX7_pointless_29 : decode cX7_pointless 29 = .ok (.iconst 0, 1) := by decide +kernel
theorem dX7_pointless_30 : decode cX7_pointless 30 = .ok (.ireturn, 1) := by decide +kernel
set_option maxRecDepth 20000 in
theorem ggX7_lawless_X7_missing : GoodIn wsX7_lawless wsX7_missing := goodIn_r _ [7, 1, 8, 9, 10, 6, 11, 12, 13, 14, 15, 16, 17, 18, 19, 20, 21, 22, 23, 24, 25, 26, 27, 28, 29, 30] rfl (by decide +kernel)
set_option maxRecDepth 20000 in
theorem gX7_lawless_X7_missing : GoodIn wsX7_lawless (wsV RX7 87 RX7 yX7_missing wsX7_missing) := goodIn_app (goodIn_of _ (by decide +kernel)) ggX7_lawless_X7_missing
theorem dX7_lawless_0 : decode cX7_lawless 0 = .ok (.aload_n 0, 1) := by decide +kernel
theorem dX7_lawless_1 : decode cX7_lawless 1 = .ok (.iload_n 1, 1) := by decide +kernel
theorem dX7_lawless_2 : decode cX7_lawless 2 = .ok (.invokevirtual 87, 3) := by decide +kernel
theorem dX7_lawless_5 : decode cX7_lawless 5 = .ok (.istore_n 2, 1) := by decide +kernel
theorem dX7_lawless_6 : decode cX7_lawless 6 = .ok (.iload_n 2, 1) := by decide +kernel
theorem dX7_lawless_7 : decode cX7_lawless 7 = .ok (.ifCond .eq 5, 3) := by decide +kernel
theorem dX7_lawless_10 : decode cX7_lawless 10 = .ok (.iload_n 2, 1) := by decide +kernel
theorem dX7_lawless_11 : decode cX7_lawless 11 = .ok (.ireturn, 1) := by decide +kernel
theorem dX7_lawless_12 : decode cX7_lawless 12 = .ok (.aload_n 0, 1) := by decide +kernel
theorem dX7_lawless_13 : decode cX7_lawless 13 = .ok (.getfield 18, 3) := by decide +kernel
theorem dX7_lawless_16 : decode cX7_lawless 16 = .ok (.iload_n 1, 1) := by decide +kernel
theorem dX7_lawless_17 : decode cX7_lawless 17 = .ok (.aaload, 1) := by decide +kernel
theorem dX7_lawless_18 : decode cX7_lawless 18 = .ok (.getfield 94, 3) := by decide +kernel
theorem dX7_lawless_21 : decode cX7_lawless 21 = .ok (.iconst 3, 1) := by decide +kernel
theorem dX7_lawless_22 : decode cX7_lawless 22 = .ok (.if_icmp .ne 7, 3) := by decide +kernel
theorem dX7_lawless_25 : decode cX7_lawless 25 = .ok (.iconst 0, 1) := by decide +kernel
theorem dX7_lawless_26 : decode cX7_lawless 26 = .ok (.goto 5, 3) := by decide +kernel
theorem dX7_lawless_29 : decode cX7_lawless 29 = .ok (.bipush (-12), 2) := by decide +kernel
theorem dX7_lawless_31 : decode cX7_lawless 31 = .ok (.ireturn, 1) := by decide +kernel
set_option maxRecDepth 20000 in
theorem ggX7_unfit_X7_isSheet : GoodIn wsX7_unfit wsX7_isSheet := goodIn_r _ [7, 8, 9, 6, 10] rfl (by decide +kernel)
set_option maxRecDepth 20000 in
theorem gX7_unfit_X7_isSheet : GoodIn wsX7_unfit (va_wsS RX7 197 yX7_isSheet wsX7_isSheet) := goodIn_app (goodIn_of _ (by decide +kernel)) ggX7_unfit_X7_isSheet
set_option maxRecDepth 20000 in
theorem ggX7_unfit_X7_isLane : GoodIn wsX7_unfit wsX7_isLane := goodIn_r _ [13, 8, 9, 6, 10] rfl (by decide +kernel)
set_option maxRecDepth 20000 in
theorem gX7_unfit_X7_isLane : GoodIn wsX7_unfit (va_wsS RX7 200 yX7_isLane wsX7_isLane) := goodIn_app (goodIn_of _ (by decide +kernel)) ggX7_unfit_X7_isLane
set_option maxRecDepth 20000 in
theorem ggX7_unfit_X7_within : GoodIn wsX7_unfit wsX7_within := goodIn_r _ [10] rfl (by decide +kernel)
set_option maxRecDepth 20000 in
theorem gX7_unfit_X7_within : GoodIn wsX7_unfit (va_wsS RX7 54 yX7_within wsX7_within) := goodIn_app (goodIn_of _ (by decide +kernel)) ggX7_unfit_X7_within
theorem dX7_unfit_0 : decode cX7_unfit 0 = .ok (.iload_n 1, 1) := by decide +kernel
theorem dX7_unfit_1 : decode cX7_unfit 1 = .ok (.invokestatic 197, 3) := by decide +kernel
theorem dX7_unfit_4 : decode cX7_unfit 4 = .ok (.ifCond .eq 10, 3) := by decide +kernel
theorem dX7_unfit_7 : decode cX7_unfit 7 = .ok (.iload_n 2, 1) := by decide +kernel
theorem dX7_unfit_8 : decode cX7_unfit 8 = .ok (.invokestatic 200, 3) := by decide +kernel
theorem dX7_unfit_11 : decode cX7_unfit 11 = .ok (.ifCond .ne 5, 3) := by decide +kernel
theorem dX7_unfit_14 : decode cX7_unfit 14 = .ok (.iconst (-1), 1) := by decide +kernel
theorem dX7_unfit_15 : decode cX7_unfit 15 = .ok (.ireturn, 1) := by decide +kernel
theorem dX7_unfit_16 : decode cX7_unfit 16 = .ok (.aload_n 0, 1) := by decide +kernel
theorem dX7_unfit_17 : decode cX7_unfit 17 = .ok (.getfield 24, 3) := by decide +kernel
theorem dX7_unfit_20 : decode cX7_unfit 20 = .ok (.iload_n 1, 1) := by decide +kernel
theorem dX7_unfit_21 : decode cX7_unfit 21 = .ok (.aaload, 1) := by decide +kernel
theorem dX7_unfit_22 : decode cX7_unfit 22 = .ok (.astore 5, 2) := by decide +kernel
theorem dX7_unfit_24 : decode cX7_unfit 24 = .ok (.aload 5, 2) := by decide +kernel
theorem dX7_unfit_26 : decode cX7_unfit 26 = .ok (.getfield 203, 3) := by decide +kernel
theorem dX7_unfit_29 : decode cX7_unfit 29 = .ok (.iconst (-1), 1) := by decide +kernel
theorem dX7_unfit_30 : decode cX7_unfit 30 = .ok (.if_icmp .ne 6, 3) := by decide +kernel
theorem dX7_unfit_33 : decode cX7_unfit 33 = .ok (.bipush (-11), 2) := by decide +kernel
theorem dX7_unfit_35 : decode cX7_unfit 35 = .ok (.ireturn, 1) := by decide +kernel
theorem dX7_unfit_36 : decode cX7_unfit 36 = .ok (.aload 5, 2) := by decide +kernel
theorem dX7_unfit_38 : decode cX7_unfit 38 = .ok (.getfield 203, 3) := by decide +kernel
theorem dX7_unfit_41 : decode cX7_unfit 41 = .ok (.iload_n 2, 1) := by decide +kernel
theorem dX7_unfit_42 : decode cX7_unfit 42 = .ok (.if_icmp .eq 6, 3) := by decide +kernel
theorem dX7_unfit_45 : decode cX7_unfit 45 = .ok (.bipush (-12), 2) := by decide +kernel
theorem dX7_unfit_47 : decode cX7_unfit 47 = .ok (.ireturn, 1) := by decide +kernel
theorem dX7_unfit_48 : decode cX7_unfit 48 = .ok (.iload_n 3, 1) := by decide +kernel
theorem dX7_unfit_49 : decode cX7_unfit 49 = .ok (.iconst 0, 1) := by decide +kernel
theorem dX7_unfit_50 : decode cX7_unfit 50 = .ok (.aload 5, 2) := by decide +kernel
theorem dX7_unfit_52 : decode cX7_unfit 52 = .ok (.getfield 206, 3) := by decide +kernel
theorem dX7_unfit_55 : decode cX7_unfit 55 = .ok (.iload 4, 2) := by decide +kernel
theorem dX7_unfit_57 : decode cX7_unfit 57 = .ok (.isub, 1) := by decide +kernel
theorem dX7_unfit_58 : decode cX7_unfit 58 = .ok (.invokestatic 54, 3) := by decide +kernel
theorem dX7_unfit_61 : decode cX7_unfit 61 = .ok (.ifCond .eq 7, 3) := by decide +kernel
theorem dX7_unfit_64 : decode cX7_unfit 64 = .ok (.iconst 0, 1) := by decide +kernel
theorem dX7_unfit_65 : decode cX7_unfit 65 = .ok (.goto 5, 3) := by decide +kernel
theorem dX7_unfit_68 : decode cX7_unfit 68 = .ok (.bipush (-13), 2) := by decide +kernel
theorem dX7_unfit_70 : decode cX7_unfit 70 = .ok (.ireturn, 1) := by decide +kernel
set_option maxRecDepth 20000 in
theorem ggX7_settle_X4_learn : GoodIn wsX7_settle wsX4_learn := goodIn_r _ [15, 16, 17, 18, 19, 14, 20, 21, 22, 23, 24, 25, 26, 27, 28, 29, 30, 31, 32, 33, 34, 35, 36, 37, 38, 39, 40, 41, 5, 6, 7, 42, 43, 44, 45, 46, 47, 48, 49, 50, 51, 52, 53, 54, 55, 56, 57, 58, 59, 60, 61, 62, 63, 64, 65, 66, 67, 68, 69, 70, 71, 72, 73, 74, 75, 76, 77, 78, 79, 80, 81, 82, 83, 84, 85, 86, 87, 88, 89, 90, 91, 92, 93, 94, 95, 96, 97, 98, 99, 100, 101, 102, 103, 104, 105, 106, 107, 108, 109, 110, 111, 112, 113, 114, 115, 116, 117, 118, 119, 120, 121, 122, 123, 124, 125, 126, 127, 128, 129, 130, 131, 132, 133, 134, 135, 136, 137, 138, 139, 140, 141, 142, 143, 144, 145, 146, 155, 156, 157, 158, 159, 160, 161, 162, 163, 164, 165, 166, 167, 168] rfl (by decide +kernel)
set_option maxRecDepth 20000 in
theorem gX7_settle_X4_learn : GoodIn wsX7_settle (wsV RX7 221 RX4 yX4_learn wsX4_learn) := goodIn_app (goodIn_of _ (by decide +kernel)) ggX7_settle_X4_learn
theorem dX7_settle_0 : decode cX7_settle 0 = .ok (.aload_n 0, 1) := by decide +kernel
theorem dX7_settle_1 : decode cX7_settle 1 = .ok (.getfield 18, 3) := by decide +kernel
theorem dX7_settle_4 : decode cX7_settle 4 = .ok (.iload_n 1, 1) := by decide +kernel
theorem dX7_settle_5 : decode cX7_settle 5 = .ok (.aaload, 1) := by decide +kernel
theorem dX7_settle_6 : decode cX7_settle 6 = .ok (.astore_n 2, 1) := by decide +kernel
theorem dX7_settle_7 : decode cX7_settle 7 = .ok (.aload_n 0, 1) := by decide +kernel
theorem dX7_settle_8 : decode cX7_settle 8 = .ok (.getfield 42, 3) := by decide +kernel
theorem dX7_settle_11 : decode cX7_settle 11 = .ok (.iconst 0, 1) := by decide +kernel
theorem dX7_settle_12 : decode cX7_settle 12 = .ok (.aload_n 2, 1) := by decide +kernel
theorem dX7_settle_13 : decode cX7_settle 13 = .ok (.getfield 171, 3) := by decide +kernel
theorem dX7_settle_16 : decode cX7_settle 16 = .ok (.iconst 0, 1) := by decide +kernel
theorem dX7_settle_17 : decode cX7_settle 17 = .ok (.bipush 12, 2) := by decide +kernel
theorem dX7_settle_19 : decode cX7_settle 19 = .ok (.invokestatic 191, 3) := by decide +kernel
theorem dX7_settle_22 : decode cX7_settle 22 = .ok (.aload_n 2, 1) := by decide +kernel
theorem dX7_settle_23 : decode cX7_settle 23 = .ok (.iconst 1, 1) := by decide +kernel
theorem dX7_settle_24 : decode cX7_settle 24 = .ok (.putfield 90, 3) := by decide +kernel
theorem dX7_settle_27 : decode cX7_settle 27 = .ok (.aload_n 0, 1) := by decide +kernel
theorem dX7_settle_28 : decode cX7_settle 28 = .ok (.getfield 38, 3) := by decide +kernel
theorem dX7_settle_31 : decode cX7_settle 31 = .ok (.aload_n 2, 1) := by decide +kernel
theorem dX7_settle_32 : decode cX7_settle 32 = .ok (.invokevirtual 221, 3) := by decide +kernel
theorem dX7_settle_35 : decode cX7_settle 35 = .ok (.aload_n 2, 1) := by decide +kernel
theorem dX7_settle_36 : decode cX7_settle 36 = .ok (.getfield 94, 3) := by decide +kernel
theorem dX7_settle_39 : decode cX7_settle 39 = .ok (.ireturn, 1) := by decide +kernel
theorem dX7_multiply_0 : decode cX7_multiply 0 = .ok (.iconst 0, 1) := by decide +kernel
theorem dX7_multiply_1 : decode cX7_multiply 1 = .ok (.istore 4, 2) := by decide +kernel
theorem dX7_multiply_3 : decode cX7_multiply 3 = .ok (.iload 4, 2) := by decide +kernel
theorem dX7_multiply_5 : decode cX7_multiply 5 = .ok (.iload_n 3, 1) := by decide +kernel
theorem dX7_multiply_6 : decode cX7_multiply 6 = .ok (.if_icmp .ge 52, 3) := by decide +kernel
theorem dX7_multiply_9 : decode cX7_multiply 9 = .ok (.iconst 3, 1) := by decide +kernel
theorem dX7_multiply_10 : decode cX7_multiply 10 = .ok (.istore 5, 2) := by decide +kernel
theorem dX7_multiply_12 : decode cX7_multiply 12 = .ok (.iload 5, 2) := by decide +kernel
theorem dX7_multiply_14 : decode cX7_multiply 14 = .ok (.ifCond .le 30, 3) := by decide +kernel
theorem dX7_multiply_17 : decode cX7_multiply 17 = .ok (.aload_n 0, 1) := by decide +kernel
theorem dX7_multiply_18 : decode cX7_multiply 18 = .ok (.iload 5, 2) := by decide +kernel
theorem dX7_multiply_20 : decode cX7_multiply 20 = .ok (.aload_n 0, 1) := by decide +kernel
theorem dX7_multiply_21 : decode cX7_multiply 21 = .ok (.iload 5, 2) := by decide +kernel
theorem dX7_multiply_23 : decode cX7_multiply 23 = .ok (.laload, 1) := by decide +kernel
theorem dX7_multiply_24 : decode cX7_multiply 24 = .ok (.iload_n 2, 1) := by decide +kernel
theorem dX7_multiply_25 : decode cX7_multiply 25 = .ok (.i2l, 1) := by decide +kernel
theorem dX7_multiply_26 : decode cX7_multiply 26 = .ok (.lmul, 1) := by decide +kernel
theorem dX7_multiply_27 : decode cX7_multiply 27 = .ok (.aload_n 0, 1) := by decide +kernel
theorem dX7_multiply_28 : decode cX7_multiply 28 = .ok (.iload 5, 2) := by decide +kernel
theorem dX7_multiply_30 : decode cX7_multiply 30 = .ok (.iconst 1, 1) := by decide +kernel
theorem dX7_multiply_31 : decode cX7_multiply 31 = .ok (.isub, 1) := by decide +kernel
theorem dX7_multiply_32 : decode cX7_multiply 32 = .ok (.laload, 1) := by decide +kernel
theorem dX7_multiply_33 : decode cX7_multiply 33 = .ok (.iload_n 1, 1) := by decide +kernel
theorem dX7_multiply_34 : decode cX7_multiply 34 = .ok (.i2l, 1) := by decide +kernel
theorem dX7_multiply_35 : decode cX7_multiply 35 = .ok (.lmul, 1) := by decide +kernel
theorem dX7_multiply_36 : decode cX7_multiply 36 = .ok (.ladd, 1) := by decide +kernel
theorem dX7_multiply_37 : decode cX7_multiply 37 = .ok (.lastore, 1) := by decide +kernel
theorem dX7_multiply_38 : decode cX7_multiply 38 = .ok (.iinc 5 (-1), 3) := by decide +kernel
theorem dX7_multiply_41 : decode cX7_multiply 41 = .ok (.goto (-29), 3) := by decide +kernel
theorem dX7_multiply_44 : decode cX7_multiply 44 = .ok (.aload_n 0, 1) := by decide +kernel
theorem dX7_multiply_45 : decode cX7_multiply 45 = .ok (.iconst 0, 1) := by decide +kernel
theorem dX7_multiply_46 : decode cX7_multiply 46 = .ok (.dup2, 1) := by decide +kernel
theorem dX7_multiply_47 : decode cX7_multiply 47 = .ok (.laload, 1) := by decide +kernel
theorem dX7_multiply_48 : decode cX7_multiply 48 = .ok (.iload_n 2, 1) := by decide +kernel
theorem dX7_multiply_49 : decode cX7_multiply 49 = .ok (.i2l, 1) := by decide +kernel
theorem dX7_multiply_50 : decode cX7_multiply 50 = .ok (.lmul, 1) := by decide +kernel
theorem dX7_multiply_51 : decode cX7_multiply 51 = .ok (.lastore, 1) := by decide +kernel
theorem dX7_multiply_52 : decode cX7_multiply 52 = .ok (.iinc 4 1, 3) := by decide +kernel
theorem dX7_multiply_55 : decode cX7_multiply 55 = .ok (.goto (-52), 3) := by decide +kernel
theorem dX7_multiply_58 : decode cX7_multiply 58 = .ok (.return_, 1) := by decide +kernel
theorem dX8_in_0 : decode cX8_in 0 = .ok (.lload_n 0, 1) := by decide +kernel
theorem dX8_in_1 : decode cX8_in 1 = .ok (.lload_n 2, 1) := by decide +kernel
theorem dX8_in_2 : decode cX8_in 2 = .ok (.lcmp, 1) := by decide +kernel
theorem dX8_in_3 : decode cX8_in 3 = .ok (.ifCond .lt 14, 3) := by decide +kernel
theorem dX8_in_6 : decode cX8_in 6 = .ok (.lload_n 0, 1) := by decide +kernel
theorem dX8_in_7 : decode cX8_in 7 = .ok (.lload 4, 2) := by decide +kernel
theorem dX8_in_9 : decode cX8_in 9 = .ok (.lcmp, 1) := by decide +kernel
theorem dX8_in_10 : decode cX8_in 10 = .ok (.ifCond .gt 7, 3) := by decide +kernel
theorem dX8_in_13 : decode cX8_in 13 = .ok (.iconst 1, 1) := by decide +kernel
theorem dX8_in_14 : decode cX8_in 14 = .ok (.goto 4, 3) := by decide +kernel
theorem dX8_in_17 : decode cX8_in 17 = .ok (.iconst 0, 1) := by decide +kernel
theorem dX8_in_18 : decode cX8_in 18 = .ok (.ireturn, 1) := by decide +kernel
theorem dX8_common_0 : decode cX8_common 0 = .ok (.lload_n 0, 1) := by decide +kernel
theorem dX8_common_1 : decode cX8_common 1 = .ok (.lconst 0, 1) := by decide +kernel
theorem dX8_common_2 : decode cX8_common 2 = .ok (.lcmp, 1) := by decide +kernel
theorem dX8_common_3 : decode cX8_common 3 = .ok (.ifCond .ge 8, 3) := by decide +kernel
theorem dX8_common_6 : decode cX8_common 6 = .ok (.lload_n 0, 1) := by decide +kernel
theorem dX8_common_7 : decode cX8_common 7 = .ok (.lneg, 1) := by decide +kernel
theorem dX8_common_8 : decode cX8_common 8 = .ok (.goto 4, 3) := by decide +kernel
theorem dX8_common_11 : decode cX8_common 11 = .ok (.lload_n 0, 1) := by decide +kernel
theorem dX8_common_12 : decode cX8_common 12 = .ok (.lstore 4, 2) := by decide +kernel
theorem dX8_common_14 : decode cX8_common 14 = .ok (.lload_n 2, 1) := by decide +kernel
theorem dX8_common_15 : decode cX8_common 15 = .ok (.lconst 0, 1) := by decide +kernel
theorem dX8_common_16 : decode cX8_common 16 = .ok (.lcmp, 1) := by decide +kernel
theorem dX8_common_17 : decode cX8_common 17 = .ok (.ifCond .ge 8, 3) := by decide +kernel
theorem dX8_common_20 : decode cX8_common 20 = .ok (.lload_n 2, 1) := by decide +kernel
theorem dX8_common_21 : decode cX8_common 21 = .ok (.lneg, 1) := by decide +kernel
theorem dX8_common_22 : decode cX8_common 22 = .ok (.goto 4, 3) := by decide +kernel
theorem dX8_common_25 : decode cX8_common 25 = .ok (.lload_n 2, 1) := by decide +kernel
theorem dX8_common_26 : decode cX8_common 26 = .ok (.lstore 6, 2) := by decide +kernel
theorem dX8_common_28 : decode cX8_common 28 = .ok (.lload 6, 2) := by decide +kernel
theorem dX8_common_30 : decode cX8_common 30 = .ok (.lconst 0, 1) := by decide +kernel
theorem dX8_common_31 : decode cX8_common 31 = .ok (.lcmp, 1) := by decide +kernel
theorem dX8_common_32 : decode cX8_common 32 = .ok (.ifCond .eq 21, 3) := by decide +kernel
theorem dX8_common_35 : decode cX8_common 35 = .ok (.lload 4, 2) := by decide +kernel
theorem dX8_common_37 : decode cX8_common 37 = .ok (.lload 6, 2) := by decide +kernel
theorem dX8_common_39 : decode cX8_common 39 = .ok (.lrem, 1) := by decide +kernel
theorem dX8_common_40 : decode cX8_common 40 = .ok (.lstore 8, 2) := by decide +kernel
theorem dX8_common_42 : decode cX8_common 42 = .ok (.lload 6, 2) := by decide +kernel
theorem dX8_common_44 : decode cX8_common 44 = .ok (.lstore 4, 2) := by decide +kernel
theorem dX8_common_46 : decode cX8_common 46 = .ok (.lload 8, 2) := by decide +kernel
theorem dX8_common_48 : decode cX8_common 48 = .ok (.lstore 6, 2) := by decide +kernel
theorem dX8_common_50 : decode cX8_common 50 = .ok (.goto (-22), 3) := by decide +kernel
theorem dX8_common_53 : decode cX8_common 53 = .ok (.lload 4, 2) := by decide +kernel
theorem dX8_common_55 : decode cX8_common 55 = .ok (.lreturn, 1) := by decide +kernel
theorem dX8_init_0 : decode cX8_init 0 = .ok (.aload_n 0, 1) := by decide +kernel
theorem dX8_init_1 : decode cX8_init 1 = .ok (.invokespecial 1, 3) := by decide +kernel
theorem dX8_init_4 : decode cX8_init 4 = .ok (.aload_n 0, 1) := by decide +kernel
theorem dX8_init_5 : decode cX8_init 5 = .ok (.iconst 4, 1) := by decide +kernel
theorem dX8_init_6 : decode cX8_init 6 = .ok (.newarray .boolean, 2) := by decide +kernel
theorem dX8_init_8 : decode cX8_init 8 = .ok (.putfield 7, 3) := by decide +kernel
theorem dX8_init_11 : decode cX8_init 11 = .ok (.aload_n 0, 1) := by decide +kernel
theorem dX8_init_12 : decode cX8_init 12 = .ok (.bipush 48, 2) := by decide +kernel
theorem dX8_init_14 : decode cX8_init 14 = .ok (.newarray .long, 2) := by decide +kernel
theorem dX8_init_16 : decode cX8_init 16 = .ok (.putfield 13, 3) := by decide +kernel
theorem dX8_init_19 : decode cX8_init 19 = .ok (.aload_n 0, 1) := by decide +kernel
theorem dX8_init_20 : decode cX8_init 20 = .ok (.bipush 12, 2) := by decide +kernel
theorem dX8_init_22 : decode cX8_init 22 = .ok (.newarray .long, 2) := by decide +kernel
theorem dX8_init_24 : decode cX8_init 24 = .ok (.putfield 17, 3) := by decide +kernel
theorem dX8_init_27 : decode cX8_init 27 = .ok (.aload_n 0, 1) := by decide +kernel
theorem dX8_init_28 : decode cX8_init 28 = .ok (.iconst 4, 1) := by decide +kernel
theorem dX8_init_29 : decode cX8_init 29 = .ok (.newarray .long, 2) := by decide +kernel
theorem dX8_init_31 : decode cX8_init 31 = .ok (.putfield 20, 3) := by decide +kernel
theorem dX8_init_34 : decode cX8_init 34 = .ok (.aload_n 0, 1) := by decide +kernel
theorem dX8_init_35 : decode cX8_init 35 = .ok (.iconst 4, 1) := by decide +kernel
theorem dX8_init_36 : decode cX8_init 36 = .ok (.newarray .long, 2) := by decide +kernel
theorem dX8_init_38 : decode cX8_init 38 = .ok (.putfield 23, 3) := by decide +kernel
theorem dX8_init_41 : decode cX8_init 41 = .ok (.aload_n 0, 1) := by decide +kernel
theorem dX8_init_42 : decode cX8_init 42 = .ok (.iconst 3, 1) := by decide +kernel
theorem dX8_init_43 : decode cX8_init 43 = .ok (.newarray .long, 2) := by decide +kernel
theorem dX8_init_45 : decode cX8_init 45 = .ok (.putfield 26, 3) := by decide +kernel
theorem dX8_init_48 : decode cX8_init 48 = .ok (.aload_n 0, 1) := by decide +kernel
theorem dX8_init_49 : decode cX8_init 49 = .ok (.bipush 90, 2) := by decide +kernel
theorem dX8_init_51 : decode cX8_init 51 = .ok (.newarray .int, 2) := by decide +kernel
theorem dX8_init_53 : decode cX8_init 53 = .ok (.putfield 29, 3) := by decide +kernel
theorem dX8_init_56 : decode cX8_init 56 = .ok (.aload_n 0, 1) := by decide +kernel
theorem dX8_init_57 : decode cX8_init 57 = .ok (.iconst 3, 1) := by decide +kernel
theorem dX8_init_58 : decode cX8_init 58 = .ok (.newarray .long, 2) := by decide +kernel
theorem dX8_init_60 : decode cX8_init 60 = .ok (.putfield 33, 3) := by decide +kernel
theorem dX8_init_63 : decode cX8_init 63 = .ok (.aload_n 0, 1) := by decide +kernel
theorem dX8_init_64 : decode cX8_init 64 = .ok (.bipush 27, 2) := by decide +kernel
theorem dX8_init_66 : decode cX8_init 66 = .ok (.newarray .long, 2) := by decide +kernel
theorem dX8_init_68 : decode cX8_init 68 = .ok (.putfield 36, 3) := by decide +kernel
theorem dX8_init_71 : decode cX8_init 71 = .ok (.aload_n 0, 1) := by decide +kernel
theorem dX8_init_72 : decode cX8_init 72 = .ok (.bipush 10, 2) := by decide +kernel
theorem dX8_init_74 : decode cX8_init 74 = .ok (.newarray .long, 2) := by decide +kernel
theorem dX8_init_76 : decode cX8_init 76 = .ok (.putfield 39, 3) := by decide +kernel
theorem dX8_init_79 : decode cX8_init 79 = .ok (.aload_n 0, 1) := by decide +kernel
theorem dX8_init_80 : decode cX8_init 80 = .ok (.bipush 30, 2) := by decide +kernel
theorem dX8_init_82 : decode cX8_init 82 = .ok (.newarray .long, 2) := by decide +kernel
theorem dX8_init_84 : decode cX8_init 84 = .ok (.putfield 42, 3) := by decide +kernel
theorem dX8_init_87 : decode cX8_init 87 = .ok (.aload_n 0, 1) := by decide +kernel
theorem dX8_init_88 : decode cX8_init 88 = .ok (.bipush 25, 2) := by decide +kernel
theorem dX8_init_90 : decode cX8_init 90 = .ok (.newarray .long, 2) := by decide +kernel
theorem dX8_init_92 : decode cX8_init 92 = .ok (.putfield 45, 3) := by decide +kernel
theorem dX8_init_95 : decode cX8_init 95 = .ok (.aload_n 0, 1) := by decide +kernel
theorem dX8_init_96 : decode cX8_init 96 = .ok (.bipush 6, 2) := by decide +kernel
theorem dX8_init_98 : decode cX8_init 98 = .ok (.newarray .long, 2) := by decide +kernel
theorem dX8_init_100 : decode cX8_init 100 = .ok (.putfield 48, 3) := by decide +kernel
theorem dX8_init_103 : decode cX8_init 103 = .ok (.aload_n 0, 1) := by decide +kernel
theorem dX8_init_104 : decode cX8_init 104 = .ok (.bipush 10, 2) := by decide +kernel
theorem dX8_init_106 : decode cX8_init 106 = .ok (.newarray .long, 2) := by decide +kernel
theorem dX8_init_108 : decode cX8_init 108 = .ok (.putfield 51, 3) := by decide +kernel
theorem dX8_init_111 : decode cX8_init 111 = .ok (.aload_n 0, 1) := by decide +kernel
theorem dX8_init_112 : decode cX8_init 112 = .ok (.iconst 4, 1) := by decide +kernel
theorem dX8_init_113 : decode cX8_init 113 = .ok (.newarray .int, 2) := by decide +kernel
theorem dX8_init_115 : decode cX8_init 115 = .ok (.putfield 54, 3) := by decide +kernel
theorem dX8_init_118 : decode cX8_init 118 = .ok (.aload_n 0, 1) := by decide +kernel
theorem dX8_init_119 : decode cX8_init 119 = .ok (.iconst 4, 1) := by decide +kernel
theorem dX8_init_120 : decode cX8_init 120 = .ok (.newarray .int, 2) := by decide +kernel
theorem dX8_init_122 : decode cX8_init 122 = .ok (.putfield 57, 3) := by decide +kernel
theorem dX8_init_125 : decode cX8_init 125 = .ok (.aload_n 0, 1) := by decide +kernel
theorem dX8_init_126 : decode cX8_init 126 = .ok (.bipush 80, 2) := by decide +kernel
theorem dX8_init_128 : decode cX8_init 128 = .ok (.newarray .int, 2) := by decide +kernel
theorem dX8_init_130 : decode cX8_init 130 = .ok (.putfield 60, 3) := by decide +kernel
theorem dX8_init_133 : decode cX8_init 133 = .ok (.iconst 0, 1) := by decide +kernel
theorem dX8_init_134 : decode cX8_init 134 = .ok (.istore_n 1, 1) := by decide +kernel
theorem dX8_init_135 : decode cX8_init 135 = .ok (.iload_n 1, 1) := by decide +kernel
theorem dX8_init_136 : decode cX8_init 136 = .ok (.iconst 4, 1) := by decide +kernel
theorem dX8_init_137 : decode cX8_init 137 = .ok (.if_icmp .ge 16, 3) := by decide +kernel
theorem dX8_init_140 : decode cX8_init 140 = .ok (.aload_n 0, 1) := by decide +kernel
theorem dX8_init_141 : decode cX8_init 141 = .ok (.getfield 54, 3) := by decide +kernel
theorem dX8_init_144 : decode cX8_init 144 = .ok (.iload_n 1, 1) := by decide +kernel
theorem dX8_init_145 : decode cX8_init 145 = .ok (.iconst (-1), 1) := by decide +kernel
theorem dX8_init_146 : decode cX8_init 146 = .ok (.iastore, 1) := by decide +kernel
theorem dX8_init_147 : decode cX8_init 147 = .ok (.iinc 1 1, 3) := by decide +kernel
theorem dX8_init_150 : decode cX8_init 150 = .ok (.goto (-15), 3) := by decide +kernel
theorem dX8_init_153 : decode cX8_init 153 = .ok (.return_, 1) := by decide +kernel
theorem dX8_degreeAt_0 : decode cX8_degreeAt 0 = .ok (.iconst 3, 1) := by decide +kernel
theorem dX8_degreeAt_1 : decode cX8_degreeAt 1 = .ok (.istore_n 2, 1) := by decide +kernel
theorem dX8_degreeAt_2 : decode cX8_degreeAt 2 = .ok (.iload_n 2, 1) := by decide +kernel
theorem dX8_degreeAt_3 : decode cX8_degreeAt 3 = .ok (.ifCond .lt 19, 3) := by decide +kernel
theorem dX8_degreeAt_6 : decode cX8_degreeAt 6 = .ok (.aload_n 0, 1) := by decide +kernel
theorem dX8_degreeAt_7 : decode cX8_degreeAt 7 = .ok (.iload_n 1, 1) := by decide +kernel
theorem dX8_degreeAt_8 : decode cX8_degreeAt 8 = .ok (.iload_n 2, 1) := by decide +kernel
theorem dX8_degreeAt_9 : decode cX8_degreeAt 9 = .ok (.iadd, 1) := by decide +kernel
theorem dX8_degreeAt_10 : decode cX8_degreeAt 10 = .ok (.laload, 1) := by decide +kernel
theorem dX8_degreeAt_11 : decode cX8_degreeAt 11 = .ok (.lconst 0, 1) := by decide +kernel
theorem dX8_degreeAt_12 : decode cX8_degreeAt 12 = .ok (.lcmp, 1) := by decide +kernel
theorem dX8_degreeAt_13 : decode cX8_degreeAt 13 = .ok (.ifCond .ne 9, 3) := by decide +kernel
theorem dX8_degreeAt_16 : decode cX8_degreeAt 16 = .ok (.iinc 2 (-1), 3) := by decide +kernel
theorem dX8_degreeAt_19 : decode cX8_degreeAt 19 = .ok (.goto (-17), 3) := by decide +kernel
theorem dX8_degreeAt_22 : decode cX8_degreeAt 22 = .ok (.iload_n 2, 1) := by decide +kernel
theorem dX8_degreeAt_23 : decode cX8_degreeAt 23 = .ok (.ireturn, 1) := by decide +kernel
set_option maxRecDepth 20000 in
theorem ggX8_clean_X8_common : GoodIn wsX8_clean wsX8_common := goodIn_r _ [4] rfl (by decide +kernel)
set_option maxRecDepth 20000 in
theorem gX8_clean_X8_common : GoodIn wsX8_clean (va_wsS RX8 63 yX8_common wsX8_common) := goodIn_app (goodIn_of _ (by decide +kernel)) ggX8_clean_X8_common
theorem dX8_clean_0 : decode cX8_clean 0 = .ok (.lconst 0, 1) := by decide +kernel
theorem dX8_clean_1 : decode cX8_clean 1 = .ok (.lstore_n 1, 1) := by decide +kernel
theorem dX8_clean_2 : decode cX8_clean 2 = .ok (.iconst 0, 1) := by decide +kernel
theorem dX8_clean_3 : decode cX8_clean 3 = .ok (.istore_n 3, 1) := by decide +kernel
theorem dX8_clean_4 : decode cX8_clean 4 = .ok (.iload_n 3, 1) := by decide +kernel
theorem dX8_clean_5 : decode cX8_clean 5 = .ok (.iconst 4, 1) := by decide +kernel
theorem dX8_clean_6 : decode cX8_clean 6 = .ok (.if_icmp .ge 17, 3) := by decide +kernel
theorem dX8_clean_9 : decode cX8_clean 9 = .ok (.lload_n 1, 1) := by decide +kernel
theorem dX8_clean_10 : decode cX8_clean 10 = .ok (.aload_n 0, 1) := by decide +kernel
theorem dX8_clean_11 : decode cX8_clean 11 = .ok (.iload_n 3, 1) := by decide +kernel
theorem dX8_clean_12 : decode cX8_clean 12 = .ok (.laload, 1) := by decide +kernel
theorem dX8_clean_13 : decode cX8_clean 13 = .ok (.invokestatic 63, 3) := by decide +kernel
theorem dX8_clean_16 : decode cX8_clean 16 = .ok (.lstore_n 1, 1) := by decide +kernel
theorem dX8_clean_17 : decode cX8_clean 17 = .ok (.iinc 3 1, 3) := by decide +kernel
theorem dX8_clean_20 : decode cX8_clean 20 = .ok (.goto (-16), 3) := by decide +kernel
theorem dX8_clean_23 : decode cX8_clean 23 = .ok (.iconst 0, 1) := by decide +kernel
theorem dX8_clean_24 : decode cX8_clean 24 = .ok (.istore_n 3, 1) := by decide +kernel
theorem dX8_clean_25 : decode cX8_clean 25 = .ok (.iload_n 3, 1) := by decide +kernel
theorem dX8_clean_26 : decode cX8_clean 26 = .ok (.iconst 4, 1) := by decide +kernel
theorem dX8_clean_27 : decode cX8_clean 27 = .ok (.if_icmp .ge 22, 3) := by decide +kernel
theorem dX8_clean_30 : decode cX8_clean 30 = .ok (.lload_n 1, 1) := by decide +kernel
theorem dX8_clean_31 : decode cX8_clean 31 = .ok (.lconst 1, 1) := by decide +kernel
theorem dX8_clean_32 : decode cX8_clean 32 = .ok (.lcmp, 1) := by decide +kernel
theorem dX8_clean_33 : decode cX8_clean 33 = .ok (.ifCond .le 16, 3) := by decide +kernel
theorem dX8_clean_36 : decode cX8_clean 36 = .ok (.aload_n 0, 1) := by decide +kernel
theorem dX8_clean_37 : decode cX8_clean 37 = .ok (.iload_n 3, 1) := by decide +kernel
theorem dX8_clean_38 : decode cX8_clean 38 = .ok (.dup2, 1) := by decide +kernel
theorem dX8_clean_39 : decode cX8_clean 39 = .ok (.laload, 1) := by decide +kernel
theorem dX8_clean_40 : decode cX8_clean 40 = .ok (.lload_n 1, 1) := by decide +kernel
theorem dX8_clean_41 : decode cX8_clean 41 = .ok (.ldiv, 1) := by decide +kernel
theorem dX8_clean_42 : decode cX8_clean 42 = .ok (.lastore, 1) := by decide +kernel
theorem dX8_clean_43 : decode cX8_clean 43 = .ok (.iinc 3 1, 3) := by decide +kernel
theorem dX8_clean_46 : decode cX8_clean 46 = .ok (.goto (-21), 3) := by decide +kernel
theorem dX8_clean_49 : decode cX8_clean 49 = .ok (.return_, 1) := by decide +kernel
set_option maxRecDepth 20000 in
theorem ggX8_leave_X8_degreeAt : GoodIn wsX8_leave wsX8_degreeAt := goodIn_r _ [6] rfl (by decide +kernel)
set_option maxRecDepth 20000 in
theorem gX8_leave_X8_degreeAt : GoodIn wsX8_leave (va_wsS RX8 67 yX8_degreeAt wsX8_degreeAt) := goodIn_app (goodIn_of _ (by decide +kernel)) ggX8_leave_X8_degreeAt
set_option maxRecDepth 20000 in
theorem ggX8_leave_X8_clean : GoodIn wsX8_leave wsX8_clean := goodIn_r _ [9, 10, 11, 5, 12] rfl (by decide +kernel)
set_option maxRecDepth 20000 in
theorem gX8_leave_X8_clean : GoodIn wsX8_leave (va_wsS RX8 71 yX8_clean wsX8_clean) := goodIn_app (goodIn_of _ (by decide +kernel)) ggX8_leave_X8_clean
theorem dX8_leave_0 : decode cX8_leave 0 = .ok (.aload_n 0, 1) := by decide +kernel
theorem dX8_leave_1 : decode cX8_leave 1 = .ok (.getfield 23, 3) := by decide +kernel
theorem dX8_leave_4 : decode cX8_leave 4 = .ok (.iconst 0, 1) := by decide +kernel
theorem dX8_leave_5 : decode cX8_leave 5 = .ok (.invokestatic 67, 3) := by decide +kernel
theorem dX8_leave_8 : decode cX8_leave 8 = .ok (.istore_n 1, 1) := by decide +kernel
theorem dX8_leave_9 : decode cX8_leave 9 = .ok (.aload_n 0, 1) := by decide +kernel
theorem dX8_leave_10 : decode cX8_leave 10 = .ok (.getfield 20, 3) := by decide +kernel
theorem dX8_leave_13 : decode cX8_leave 13 = .ok (.iconst 0, 1) := by decide +kernel
theorem dX8_leave_14 : decode cX8_leave 14 = .ok (.invokestatic 67, 3) := by decide +kernel
theorem dX8_leave_17 : decode cX8_leave 17 = .ok (.istore_n 2, 1) := by decide +kernel
theorem dX8_leave_18 : decode cX8_leave 18 = .ok (.iload_n 2, 1) := by decide +kernel
theorem dX8_leave_19 : decode cX8_leave 19 = .ok (.iload_n 1, 1) := by decide +kernel
theorem dX8_leave_20 : decode cX8_leave 20 = .ok (.if_icmp .lt 95, 3) := by decide +kernel
theorem dX8_leave_23 : decode cX8_leave 23 = .ok (.aload_n 0, 1) := by decide +kernel
theorem dX8_leave_24 : decode cX8_leave 24 = .ok (.getfield 20, 3) := by decide +kernel
theorem dX8_leave_27 : decode cX8_leave 27 = .ok (.iload_n 2, 1) := by decide +kernel
theorem dX8_leave_28 : decode cX8_leave 28 = .ok (.laload, 1) := by decide +kernel
theorem dX8_leave_29 : decode cX8_leave 29 = .ok (.lstore_n 3, 1) := by decide +kernel
theorem dX8_leave_30 : decode cX8_leave 30 = .ok (.aload_n 0, 1) := by decide +kernel
theorem dX8_leave_31 : decode cX8_leave 31 = .ok (.getfield 23, 3) := by decide +kernel
theorem dX8_leave_34 : decode cX8_leave 34 = .ok (.iload_n 1, 1) := by decide +kernel
theorem dX8_leave_35 : decode cX8_leave 35 = .ok (.laload, 1) := by decide +kernel
theorem dX8_leave_36 : decode cX8_leave 36 = .ok (.lstore 5, 2) := by decide +kernel
theorem dX8_leave_38 : decode cX8_leave 38 = .ok (.iconst 0, 1) := by decide +kernel
theorem dX8_leave_39 : decode cX8_leave 39 = .ok (.istore 7, 2) := by decide +kernel
theorem dX8_leave_41 : decode cX8_leave 41 = .ok (.iload 7, 2) := by decide +kernel
theorem dX8_leave_43 : decode cX8_leave 43 = .ok (.iconst 4, 1) := by decide +kernel
theorem dX8_leave_44 : decode cX8_leave 44 = .ok (.if_icmp .ge 21, 3) := by decide +kernel
theorem dX8_leave_47 : decode cX8_leave 47 = .ok (.aload_n 0, 1) := by decide +kernel
theorem dX8_leave_48 : decode cX8_leave 48 = .ok (.getfield 20, 3) := by decide +kernel
theorem dX8_leave_51 : decode cX8_leave 51 = .ok (.iload 7, 2) := by decide +kernel
theorem dX8_leave_53 : decode cX8_leave 53 = .ok (.dup2, 1) := by decide +kernel
theorem dX8_leave_54 : decode cX8_leave 54 = .ok (.laload, 1) := by decide +kernel
theorem dX8_leave_55 : decode cX8_leave 55 = .ok (.lload 5, 2) := by decide +kernel
theorem dX8_leave_57 : decode cX8_leave 57 = .ok (.lmul, 1) := by decide +kernel
theorem dX8_leave_58 : decode cX8_leave 58 = .ok (.lastore, 1) := by decide +kernel
theorem dX8_leave_59 : decode cX8_leave 59 = .ok (.iinc 7 1, 3) := by decide +kernel
theorem dX8_leave_62 : decode cX8_leave 62 = .ok (.goto (-21), 3) := by decide +kernel
theorem dX8_leave_65 : decode cX8_leave 65 = .ok (.iconst 0, 1) := by decide +kernel
theorem dX8_leave_66 : decode cX8_leave 66 = .ok (.istore 7, 2) := by decide +kernel
theorem dX8_leave_68 : decode cX8_leave 68 = .ok (.iload 7, 2) := by decide +kernel
theorem dX8_leave_70 : decode cX8_leave 70 = .ok (.iload_n 1, 1) := by decide +kernel
theorem dX8_leave_71 : decode cX8_leave 71 = .ok (.if_icmp .gt 32, 3) := by decide +kernel
theorem dX8_leave_74 : decode cX8_leave 74 = .ok (.aload_n 0, 1) := by decide +kernel
theorem dX8_leave_75 : decode cX8_leave 75 = .ok (.getfield 20, 3) := by decide +kernel
theorem dX8_leave_78 : decode cX8_leave 78 = .ok (.iload_n 2, 1) := by decide +kernel
theorem dX8_leave_79 : decode cX8_leave 79 = .ok (.iload_n 1, 1) := by decide +kernel
theorem dX8_leave_80 : decode cX8_leave 80 = .ok (.isub, 1) := by decide +kernel
theorem dX8_leave_81 : decode cX8_leave 81 = .ok (.iload 7, 2) := by decide +kernel
theorem dX8_leave_83 : decode cX8_leave 83 = .ok (.iadd, 1) := by decide +kernel
theorem dX8_leave_84 : decode cX8_leave 84 = .ok (.dup2, 1) := by decide +kernel
theorem dX8_leave_85 : decode cX8_leave 85 = .ok (.laload, 1) := by decide +kernel
theorem dX8_leave_86 : decode cX8_leave 86 = .ok (.lload_n 3, 1) := by decide +kernel
theorem dX8_leave_87 : decode cX8_leave 87 = .ok (.aload_n 0, 1) := by decide +kernel
theorem dX8_leave_88 : decode cX8_leave 88 = .ok (.getfield 23, 3) := by decide +kernel
theorem dX8_leave_91 : decode cX8_leave 91 = .ok (.iload 7, 2) := by decide +kernel
theorem dX8_leave_93 : decode cX8_leave 93 = .ok (.laload, 1) := by decide +kernel
theorem dX8_leave_94 : decode cX8_leave 94 = .ok (.lmul, 1) := by decide +kernel
theorem dX8_leave_95 : decode cX8_leave 95 = .ok (.lsub, 1) := by decide +kernel
theorem dX8_leave_96 : decode cX8_leave 96 = .ok (.lastore, 1) := by decide +kernel
theorem dX8_leave_97 : decode cX8_leave 97 = .ok (.iinc 7 1, 3) := by decide +kernel
theorem dX8_leave_100 : decode cX8_leave 100 = .ok (.goto (-32), 3) := by decide +kernel
theorem dX8_leave_103 : decode cX8_leave 103 = .ok (.aload_n 0, 1) := by decide +kernel
theorem dX8_leave_104 : decode cX8_leave 104 = .ok (.getfield 20, 3) := by decide +kernel
theorem dX8_leave_107 : decode cX8_leave 107 = .ok (.iconst 0, 1) := by decide +kernel
theorem dX8_leave_108 : decode cX8_leave 108 = .ok (.invokestatic 67, 3) := by decide +kernel
theorem dX8_leave_111 : decode cX8_leave 111 = .ok (.istore_n 2, 1) := by decide +kernel
theorem dX8_leave_112 : decode cX8_leave 112 = .ok (.goto (-94), 3) := by decide +kernel
theorem dX8_leave_115 : decode cX8_leave 115 = .ok (.aload_n 0, 1) := by decide +kernel
theorem dX8_leave_116 : decode cX8_leave 116 = .ok (.getfield 20, 3) := by decide +kernel
theorem dX8_leave_119 : decode cX8_leave 119 = .ok (.invokestatic 71, 3) := by decide +kernel
theorem dX8_leave_122 : decode cX8_leave 122 = .ok (.return_, 1) := by decide +kernel
theorem dX8_change_0 : decode cX8_change 0 = .ok (.iconst 0, 1) := by decide +kernel
theorem dX8_change_1 : decode cX8_change 1 = .ok (.istore_n 1, 1) := by decide +kernel
theorem dX8_change_2 : decode cX8_change 2 = .ok (.iload_n 1, 1) := by decide +kernel
theorem dX8_change_3 : decode cX8_change 3 = .ok (.iconst 4, 1) := by decide +kernel
theorem dX8_change_4 : decode cX8_change 4 = .ok (.if_icmp .ge 35, 3) := by decide +kernel
theorem dX8_change_7 : decode cX8_change 7 = .ok (.aload_n 0, 1) := by decide +kernel
theorem dX8_change_8 : decode cX8_change 8 = .ok (.getfield 20, 3) := by decide +kernel
theorem dX8_change_11 : decode cX8_change 11 = .ok (.iload_n 1, 1) := by decide +kernel
theorem dX8_change_12 : decode cX8_change 12 = .ok (.laload, 1) := by decide +kernel
theorem dX8_change_13 : decode cX8_change 13 = .ok (.lstore_n 2, 1) := by decide +kernel
theorem dX8_change_14 : decode cX8_change 14 = .ok (.aload_n 0, 1) := by decide +kernel
theorem dX8_change_15 : decode cX8_change 15 = .ok (.getfield 20, 3) := by decide +kernel
theorem dX8_change_18 : decode cX8_change 18 = .ok (.iload_n 1, 1) := by decide +kernel
theorem dX8_change_19 : decode cX8_change 19 = .ok (.aload_n 0, 1) := by decide +kernel
theorem dX8_change_20 : decode cX8_change 20 = .ok (.getfield 23, 3) := by decide +kernel
theorem dX8_change_23 : decode cX8_change 23 = .ok (.iload_n 1, 1) := by decide +kernel
theorem dX8_change_24 : decode cX8_change 24 = .ok (.laload, 1) := by decide +kernel
theorem dX8_change_25 : decode cX8_change 25 = .ok (.lastore, 1) := by decide +kernel
theorem dX8_change_26 : decode cX8_change 26 = .ok (.aload_n 0, 1) := by decide +kernel
theorem dX8_change_27 : decode cX8_change 27 = .ok (.getfield 23, 3) := by decide +kernel
theorem dX8_change_30 : decode cX8_change 30 = .ok (.iload_n 1, 1) := by decide +kernel
theorem dX8_change_31 : decode cX8_change 31 = .ok (.lload_n 2, 1) := by decide +kernel
theorem dX8_change_32 : decode cX8_change 32 = .ok (.lastore, 1) := by decide +kernel
theorem dX8_change_33 : decode cX8_change 33 = .ok (.iinc 1 1, 3) := by decide +kernel
theorem dX8_change_36 : decode cX8_change 36 = .ok (.goto (-34), 3) := by decide +kernel
theorem dX8_change_39 : decode cX8_change 39 = .ok (.return_, 1) := by decide +kernel
set_option maxRecDepth 20000 in
theorem ggX8_dividesLine_X8_in : GoodIn wsX8_dividesLine wsX8_in := goodIn_r _ [8] rfl (by decide +kernel)
set_option maxRecDepth 20000 in
theorem gX8_dividesLine_X8_in : GoodIn wsX8_dividesLine (va_wsS RX8 79 yX8_in wsX8_in) := goodIn_app (goodIn_of _ (by decide +kernel)) ggX8_dividesLine_X8_in
theorem dX8_dividesLine_0 : decode cX8_dividesLine 0 = .ok (.lconst 0, 1) := by decide +kernel
theorem dX8_dividesLine_1 : decode cX8_dividesLine 1 = .ok (.lstore_n 1, 1) := by decide +kernel
theorem dX8_dividesLine_2 : decode cX8_dividesLine 2 = .ok (.iconst 3, 1) := by decide +kernel
theorem dX8_dividesLine_3 : decode cX8_dividesLine 3 = .ok (.istore_n 3, 1) := by decide +kernel
theorem dX8_dividesLine_4 : decode cX8_dividesLine 4 = .ok (.iload_n 3, 1) := by decide +kernel
theorem dX8_dividesLine_5 : decode cX8_dividesLine 5 = .ok (.iconst 1, 1) := by decide +kernel
theorem dX8_dividesLine_6 : decode cX8_dividesLine 6 = .ok (.if_icmp .lt 108, 3) := by decide +kernel
theorem dX8_dividesLine_9 : decode cX8_dividesLine 9 = .ok (.aload_n 0, 1) := by decide +kernel
theorem dX8_dividesLine_10 : decode cX8_dividesLine 10 = .ok (.getfield 20, 3) := by decide +kernel
theorem dX8_dividesLine_13 : decode cX8_dividesLine 13 = .ok (.iload_n 3, 1) := by decide +kernel
theorem dX8_dividesLine_14 : decode cX8_dividesLine 14 = .ok (.laload, 1) := by decide +kernel
theorem dX8_dividesLine_15 : decode cX8_dividesLine 15 = .ok (.lload_n 1, 1) := by decide +kernel
theorem dX8_dividesLine_16 : decode cX8_dividesLine 16 = .ok (.lsub, 1) := by decide +kernel
theorem dX8_dividesLine_17 : decode cX8_dividesLine 17 = .ok (.lstore 4, 2) := by decide +kernel
theorem dX8_dividesLine_19 : decode cX8_dividesLine 19 = .ok (.lload 4, 2) := by decide +kernel
theorem dX8_dividesLine_21 : decode cX8_dividesLine 21 = .ok (.aload_n 0, 1) := by decide +kernel
theorem dX8_dividesLine_22 : decode cX8_dividesLine 22 = .ok (.getfield 23, 3) := by decide +kernel
theorem dX8_dividesLine_25 : decode cX8_dividesLine 25 = .ok (.iconst 1, 1) := by decide +kernel
theorem dX8_dividesLine_26 : decode cX8_dividesLine 26 = .ok (.laload, 1) := by decide +kernel
theorem dX8_dividesLine_27 : decode cX8_dividesLine 27 = .ok (.lrem, 1) := by decide +kernel
theorem dX8_dividesLine_28 : decode cX8_dividesLine 28 = .ok (.lconst 0, 1) := by decide +kernel
theorem dX8_dividesLine_29 : decode cX8_dividesLine 29 = .ok (.lcmp, 1) := by decide +kernel
theorem dX8_dividesLine_30 : decode cX8_dividesLine 30 = .ok (.ifCond .eq 5, 3) := by decide +kernel
theorem dX8_dividesLine_33 : decode cX8_dividesLine 33 = .ok (.iconst 0, 1) := by decide +kernel
theorem dX8_dividesLine_34 : decode cX8_dividesLine 34 = .ok (.ireturn, 1) := by decide +kernel
theorem dX8_dividesLine_35 : decode cX8_dividesLine 35 = .ok (.lload 4, 2) := by decide +kernel
theorem dX8_dividesLine_37 : decode cX8_dividesLine 37 = .ok (.aload_n 0, 1) := by decide +kernel
theorem dX8_dividesLine_38 : decode cX8_dividesLine 38 = .ok (.getfield 23, 3) := by decide +kernel
theorem dX8_dividesLine_41 : decode cX8_dividesLine 41 = .ok (.iconst 1, 1) := by decide +kernel
theorem dX8_dividesLine_42 : decode cX8_dividesLine 42 = .ok (.laload, 1) := by decide +kernel
theorem dX8_dividesLine_43 : decode cX8_dividesLine 43 = .ok (.ldiv, 1) := by decide +kernel
theorem dX8_dividesLine_44 : decode cX8_dividesLine 44 = .ok (.lstore 6, 2) := by decide +kernel
theorem dX8_dividesLine_46 : decode cX8_dividesLine 46 = .ok (.lload 6, 2) := by decide +kernel
theorem dX8_dividesLine_48 : decode cX8_dividesLine 48 = .ok (.lconst 0, 1) := by decide +kernel
theorem dX8_dividesLine_49 : decode cX8_dividesLine 49 = .ok (.lcmp, 1) := by decide +kernel
theorem dX8_dividesLine_50 : decode cX8_dividesLine 50 = .ok (.ifCond .eq 37, 3) := by decide +kernel
theorem dX8_dividesLine_53 : decode cX8_dividesLine 53 = .ok (.aload_n 0, 1) := by decide +kernel
theorem dX8_dividesLine_54 : decode cX8_dividesLine 54 = .ok (.getfield 23, 3) := by decide +kernel
theorem dX8_dividesLine_57 : decode cX8_dividesLine 57 = .ok (.iconst 0, 1) := by decide +kernel
theorem dX8_dividesLine_58 : decode cX8_dividesLine 58 = .ok (.laload, 1) := by decide +kernel
theorem dX8_dividesLine_59 : decode cX8_dividesLine 59 = .ok (.ldc2_w 75, 3) := by decide +kernel
theorem dX8_dividesLine_62 : decode cX8_dividesLine 62 = .ok (.ldc2_w 77, 3) := by decide +kernel
theorem dX8_dividesLine_65 : decode cX8_dividesLine 65 = .ok (.invokestatic 79, 3) := by decide +kernel
theorem dX8_dividesLine_68 : decode cX8_dividesLine 68 = .ok (.ifCond .eq 17, 3) := by decide +kernel
theorem dX8_dividesLine_71 : decode cX8_dividesLine 71 = .ok (.lload 6, 2) := by decide +kernel
theorem dX8_dividesLine_73 : decode cX8_dividesLine 73 = .ok (.ldc2_w 75, 3) := by decide +kernel
theorem dX8_dividesLine_76 : decode cX8_dividesLine 76 = .ok (.ldc2_w 77, 3) := by decide +kernel
theorem dX8_dividesLine_79 : decode cX8_dividesLine 79 = .ok (.invokestatic 79, 3) := by decide +kernel
theorem dX8_dividesLine_82 : decode cX8_dividesLine 82 = .ok (.ifCond .ne 5, 3) := by decide +kernel
theorem dX8_dividesLine_85 : decode cX8_dividesLine 85 = .ok (.iconst 0, 1) := by decide +kernel
theorem dX8_dividesLine_86 : decode cX8_dividesLine 86 = .ok (.ireturn, 1) := by decide +kernel
theorem dX8_dividesLine_87 : decode cX8_dividesLine 87 = .ok (.lload 6, 2) := by decide +kernel
theorem dX8_dividesLine_89 : decode cX8_dividesLine 89 = .ok (.lconst 0, 1) := by decide +kernel
theorem dX8_dividesLine_90 : decode cX8_dividesLine 90 = .ok (.lcmp, 1) := by decide +kernel
theorem dX8_dividesLine_91 : decode cX8_dividesLine 91 = .ok (.ifCond .ne 7, 3) := by decide +kernel
theorem dX8_dividesLine_94 : decode cX8_dividesLine 94 = .ok (.lconst 0, 1) := by decide +kernel
theorem dX8_dividesLine_95 : decode cX8_dividesLine 95 = .ok (.goto 12, 3) := by decide +kernel
theorem dX8_dividesLine_98 : decode cX8_dividesLine 98 = .ok (.lload 6, 2) := by decide +kernel
theorem dX8_dividesLine_100 : decode cX8_dividesLine 100 = .ok (.aload_n 0, 1) := by decide +kernel
theorem dX8_dividesLine_101 : decode cX8_dividesLine 101 = .ok (.getfield 23, 3) := by decide +kernel
theorem dX8_dividesLine_104 : decode cX8_dividesLine 104 = .ok (.iconst 0, 1) := by decide +kernel
theorem dX8_dividesLine_105 : decode cX8_dividesLine 105 = .ok (.laload, 1) := by decide +kernel
theorem dX8_dividesLine_106 : decode cX8_dividesLine 106 = .ok (.lmul, 1) := by decide +kernel
theorem dX8_dividesLine_107 : decode cX8_dividesLine 107 = .ok (.lstore_n 1, 1) := by decide +kernel
theorem dX8_dividesLine_108 : decode cX8_dividesLine 108 = .ok (.iinc 3 (-1), 3) := by decide +kernel
theorem dX8_dividesLine_111 : decode cX8_dividesLine 111 = .ok (.goto (-107), 3) := by decide +kernel
theorem dX8_dividesLine_114 : decode cX8_dividesLine 114 = .ok (.aload_n 0, 1) := by decide +kernel
theorem dX8_dividesLine_115 : decode cX8_dividesLine 115 = .ok (.getfield 20, 3) := by decide +kernel
theorem dX8_dividesLine_118 : decode cX8_dividesLine 118 = .ok (.iconst 0, 1) := by decide +kernel
theorem dX8_dividesLine_119 : decode cX8_dividesLine 119 = .ok (.laload, 1) := by decide +kernel
theorem dX8_dividesLine_120 : decode cX8_dividesLine 120 = .ok (.lload_n 1, 1) := by decide +kernel
theorem dX8_dividesLine_121 : decode cX8_dividesLine 121 = .ok (.lcmp, 1) := by decide +kernel
theorem dX8_dividesLine_122 : decode cX8_dividesLine 122 = .ok (.ifCond .ne 7, 3) := by decide +kernel
theorem dX8_dividesLine_125 : decode cX8_dividesLine 125 = .ok (.iconst 1, 1) := by decide +kernel
theorem dX8_dividesLine_126 : decode cX8_dividesLine 126 = .ok (.goto 4, 3) := by decide +kernel
theorem dX8_dividesLine_129 : decode cX8_dividesLine 129 = .ok (.iconst 0, 1) := by decide +kernel
theorem dX8_dividesLine_130 : decode cX8_dividesLine 130 = .ok (.ireturn, 1) := by decide +kernel
set_option maxRecDepth 20000 in
theorem ggX8_findCommon_X8_clean : GoodIn wsX8_findCommon wsX8_clean := goodIn_r _ [6, 7, 8, 5, 9] rfl (by decide +kernel)
set_option maxRecDepth 20000 in
theorem gX8_findCommon_X8_clean : GoodIn wsX8_findCommon (va_wsS RX8 71 yX8_clean wsX8_clean) := goodIn_app (goodIn_of _ (by decide +kernel)) ggX8_findCommon_X8_clean
set_option maxRecDepth 20000 in
theorem ggX8_findCommon_X8_degreeAt : GoodIn wsX8_findCommon wsX8_degreeAt := goodIn_r _ [12] rfl (by decide +kernel)
set_option maxRecDepth 20000 in
theorem gX8_findCommon_X8_degreeAt : GoodIn wsX8_findCommon (va_wsS RX8 67 yX8_degreeAt wsX8_degreeAt) := goodIn_app (goodIn_of _ (by decide +kernel)) ggX8_findCommon_X8_degreeAt
set_option maxRecDepth 20000 in
theorem ggX8_findCommon_X8_change : GoodIn wsX8_findCommon wsX8_change := goodIn_r _ [16, 1, 2, 30, 31, 32, 33, 34, 35, 36, 37, 38, 39, 40, 41, 42, 43, 44, 45, 46, 47, 48] rfl (by decide +kernel)
set_option maxRecDepth 20000 in
theorem gX8_findCommon_X8_change : GoodIn wsX8_findCommon (wsV RX8 83 RX8 yX8_change wsX8_change) := goodIn_app (goodIn_of _ (by decide +kernel)) ggX8_findCommon_X8_change
set_option maxRecDepth 20000 in
theorem ggX8_findCommon_X8_leave : GoodIn wsX8_findCommon wsX8_leave := goodIn_r _ [20, 2, 1, 10, 11, 5, 12, 3, 4, 6, 7, 8, 9, 30, 31, 32, 33, 34, 35, 36, 37, 38, 39, 40, 41, 42, 43, 44, 45, 46, 47, 48] rfl (by decide +kernel)
set_option maxRecDepth 20000 in
theorem gX8_findCommon_X8_leave : GoodIn wsX8_findCommon (wsV RX8 86 RX8 yX8_leave wsX8_leave) := goodIn_app (goodIn_of _ (by decide +kernel)) ggX8_findCommon_X8_leave
set_option maxRecDepth 20000 in
theorem ggX8_findCommon_X8_dividesLine : GoodIn wsX8_findCommon wsX8_dividesLine := goodIn_r _ [24, 1, 2, 25, 26, 27, 28, 5, 29, 30, 31, 32, 33, 34, 35, 36, 37, 38, 39, 40, 41, 42, 43, 44, 45, 46, 47, 48] rfl (by decide +kernel)
set_option maxRecDepth 20000 in
theorem gX8_findCommon_X8_dividesLine : GoodIn wsX8_findCommon (wsV RX8 89 RX8 yX8_dividesLine wsX8_dividesLine) := goodIn_app (goodIn_of _ (by decide +kernel)) ggX8_findCommon_X8_dividesLine
theorem dX8_findCommon_0 : decode cX8_findCommon 0 = .ok (.aload_n 0, 1) := by decide +kernel
theorem dX8_findCommon_1 : decode cX8_findCommon 1 = .ok (.getfield 20, 3) := by decide +kernel
theorem dX8_findCommon_4 : decode cX8_findCommon 4 = .ok (.invokestatic 71, 3) := by decide +kernel
theorem dX8_findCommon_7 : decode cX8_findCommon 7 = .ok (.aload_n 0, 1) := by decide +kernel
theorem dX8_findCommon_8 : decode cX8_findCommon 8 = .ok (.getfield 23, 3) := by decide +kernel
theorem dX8_findCommon_11 : decode cX8_findCommon 11 = .ok (.invokestatic 71, 3) := by decide +kernel
theorem dX8_findCommon_14 : decode cX8_findCommon 14 = .ok (.aload_n 0, 1) := by decide +kernel
theorem dX8_findCommon_15 : decode cX8_findCommon 15 = .ok (.getfield 20, 3) := by decide +kernel
theorem dX8_findCommon_18 : decode cX8_findCommon 18 = .ok (.iconst 0, 1) := by decide +kernel
theorem dX8_findCommon_19 : decode cX8_findCommon 19 = .ok (.invokestatic 67, 3) := by decide +kernel
theorem dX8_findCommon_22 : decode cX8_findCommon 22 = .ok (.aload_n 0, 1) := by decide +kernel
theorem dX8_findCommon_23 : decode cX8_findCommon 23 = .ok (.getfield 23, 3) := by decide +kernel
theorem dX8_findCommon_26 : decode cX8_findCommon 26 = .ok (.iconst 0, 1) := by decide +kernel
theorem dX8_findCommon_27 : decode cX8_findCommon 27 = .ok (.invokestatic 67, 3) := by decide +kernel
theorem dX8_findCommon_30 : decode cX8_findCommon 30 = .ok (.if_icmp .ge 7, 3) := by decide +kernel
theorem dX8_findCommon_33 : decode cX8_findCommon 33 = .ok (.aload_n 0, 1) := by decide +kernel
theorem dX8_findCommon_34 : decode cX8_findCommon 34 = .ok (.invokevirtual 83, 3) := by decide +kernel
theorem dX8_findCommon_37 : decode cX8_findCommon 37 = .ok (.aload_n 0, 1) := by decide +kernel
theorem dX8_findCommon_38 : decode cX8_findCommon 38 = .ok (.getfield 23, 3) := by decide +kernel
theorem dX8_findCommon_41 : decode cX8_findCommon 41 = .ok (.iconst 0, 1) := by decide +kernel
theorem dX8_findCommon_42 : decode cX8_findCommon 42 = .ok (.invokestatic 67, 3) := by decide +kernel
theorem dX8_findCommon_45 : decode cX8_findCommon 45 = .ok (.iconst 1, 1) := by decide +kernel
theorem dX8_findCommon_46 : decode cX8_findCommon 46 = .ok (.if_icmp .le 14, 3) := by decide +kernel
theorem dX8_findCommon_49 : decode cX8_findCommon 49 = .ok (.aload_n 0, 1) := by decide +kernel
theorem dX8_findCommon_50 : decode cX8_findCommon 50 = .ok (.invokevirtual 86, 3) := by decide +kernel
theorem dX8_findCommon_53 : decode cX8_findCommon 53 = .ok (.aload_n 0, 1) := by decide +kernel
theorem dX8_findCommon_54 : decode cX8_findCommon 54 = .ok (.invokevirtual 83, 3) := by decide +kernel
theorem dX8_findCommon_57 : decode cX8_findCommon 57 = .ok (.goto (-20), 3) := by decide +kernel
theorem dX8_findCommon_60 : decode cX8_findCommon 60 = .ok (.aload_n 0, 1) := by decide +kernel
theorem dX8_findCommon_61 : decode cX8_findCommon 61 = .ok (.getfield 23, 3) := by decide +kernel
theorem dX8_findCommon_64 : decode cX8_findCommon 64 = .ok (.iconst 0, 1) := by decide +kernel
theorem dX8_findCommon_65 : decode cX8_findCommon 65 = .ok (.invokestatic 67, 3) := by decide +kernel
theorem dX8_findCommon_68 : decode cX8_findCommon 68 = .ok (.istore_n 1, 1) := by decide +kernel
theorem dX8_findCommon_69 : decode cX8_findCommon 69 = .ok (.iload_n 1, 1) := by decide +kernel
theorem dX8_findCommon_70 : decode cX8_findCommon 70 = .ok (.iconst 1, 1) := by decide +kernel
theorem dX8_findCommon_71 : decode cX8_findCommon 71 = .ok (.if_icmp .ne 52, 3) := by decide +kernel
theorem dX8_findCommon_74 : decode cX8_findCommon 74 = .ok (.aload_n 0, 1) := by decide +kernel
theorem dX8_findCommon_75 : decode cX8_findCommon 75 = .ok (.invokevirtual 89, 3) := by decide +kernel
theorem dX8_findCommon_78 : decode cX8_findCommon 78 = .ok (.istore_n 2, 1) := by decide +kernel
theorem dX8_findCommon_79 : decode cX8_findCommon 79 = .ok (.iconst 0, 1) := by decide +kernel
theorem dX8_findCommon_80 : decode cX8_findCommon 80 = .ok (.istore_n 3, 1) := by decide +kernel
theorem dX8_findCommon_81 : decode cX8_findCommon 81 = .ok (.iload_n 3, 1) := by decide +kernel
theorem dX8_findCommon_82 : decode cX8_findCommon 82 = .ok (.iconst 4, 1) := by decide +kernel
theorem dX8_findCommon_83 : decode cX8_findCommon 83 = .ok (.if_icmp .ge 37, 3) := by decide +kernel
theorem dX8_findCommon_86 : decode cX8_findCommon 86 = .ok (.aload_n 0, 1) := by decide +kernel
theorem dX8_findCommon_87 : decode cX8_findCommon 87 = .ok (.getfield 20, 3) := by decide +kernel
theorem dX8_findCommon_90 : decode cX8_findCommon 90 = .ok (.iload_n 3, 1) := by decide +kernel
theorem dX8_findCommon_91 : decode cX8_findCommon 91 = .ok (.iload_n 2, 1) := by decide +kernel
theorem dX8_findCommon_92 : decode cX8_findCommon 92 = .ok (.ifCond .eq 12, 3) := by decide +kernel
theorem dX8_findCommon_95 : decode cX8_findCommon 95 = .ok (.aload_n 0, 1) := by decide +kernel
theorem dX8_findCommon_96 : decode cX8_findCommon 96 = .ok (.getfield 23, 3) := by decide +kernel
theorem dX8_findCommon_99 : decode cX8_findCommon 99 = .ok (.iload_n 3, 1) := by decide +kernel
theorem dX8_findCommon_100 : decode cX8_findCommon 100 = .ok (.laload, 1) := by decide +kernel
theorem dX8_findCommon_101 : decode cX8_findCommon 101 = .ok (.goto 12, 3) := by decide +kernel
theorem dX8_findCommon_104 : decode cX8_findCommon 104 = .ok (.iload_n 3, 1) := by decide +kernel
theorem dX8_findCommon_105 : decode cX8_findCommon 105 = .ok (.ifCond .ne 7, 3) := by decide +kernel
theorem dX8_findCommon_108 : decode cX8_findCommon 108 = .ok (.lconst 1, 1) := by decide +kernel
theorem dX8_findCommon_109 : decode cX8_findCommon 109 = .ok (.goto 4, 3) := by decide +kernel
theorem dX8_findCommon_112 : decode cX8_findCommon 112 = .ok (.lconst 0, 1) := by decide +kernel
theorem dX8_findCommon_113 : decode cX8_findCommon 113 = .ok (.lastore, 1) := by decide +kernel
theorem dX8_findCommon_114 : decode cX8_findCommon 114 = .ok (.iinc 3 1, 3) := by decide +kernel
theorem dX8_findCommon_117 : decode cX8_findCommon 117 = .ok (.goto (-36), 3) := by decide +kernel
theorem dX8_findCommon_120 : decode cX8_findCommon 120 = .ok (.goto 35, 3) := by decide +kernel
theorem dX8_findCommon_123 : decode cX8_findCommon 123 = .ok (.iload_n 1, 1) := by decide +kernel
theorem dX8_findCommon_124 : decode cX8_findCommon 124 = .ok (.ifCond .ne 31, 3) := by decide +kernel
theorem dX8_findCommon_127 : decode cX8_findCommon 127 = .ok (.iconst 0, 1) := by decide +kernel
theorem dX8_findCommon_128 : decode cX8_findCommon 128 = .ok (.istore_n 2, 1) := by decide +kernel
theorem dX8_findCommon_129 : decode cX8_findCommon 129 = .ok (.iload_n 2, 1) := by decide +kernel
theorem dX8_findCommon_130 : decode cX8_findCommon 130 = .ok (.iconst 4, 1) := by decide +kernel
theorem dX8_findCommon_131 : decode cX8_findCommon 131 = .ok (.if_icmp .ge 24, 3) := by decide +kernel
theorem dX8_findCommon_134 : decode cX8_findCommon 134 = .ok (.aload_n 0, 1) := by decide +kernel
theorem dX8_findCommon_135 : decode cX8_findCommon 135 = .ok (.getfield 20, 3) := by decide +kernel
theorem dX8_findCommon_138 : decode cX8_findCommon 138 = .ok (.iload_n 2, 1) := by decide +kernel
theorem dX8_findCommon_139 : decode cX8_findCommon 139 = .ok (.iload_n 2, 1) := by decide +kernel
theorem dX8_findCommon_140 : decode cX8_findCommon 140 = .ok (.ifCond .ne 7, 3) := by decide +kernel
theorem dX8_findCommon_143 : decode cX8_findCommon 143 = .ok (.lconst 1, 1) := by decide +kernel
theorem dX8_findCommon_144 : decode cX8_findCommon 144 = .ok (.goto 4, 3) := by decide +kernel
theorem dX8_findCommon_147 : decode cX8_findCommon 147 = .ok (.lconst 0, 1) := by decide +kernel
theorem dX8_findCommon_148 : decode cX8_findCommon 148 = .ok (.lastore, 1) := by decide +kernel
theorem dX8_findCommon_149 : decode cX8_findCommon 149 = .ok (.iinc 2 1, 3) := by decide +kernel
theorem dX8_findCommon_152 : decode cX8_findCommon 152 = .ok (.goto (-23), 3) := by decide +kernel
theorem dX8_findCommon_155 : decode cX8_findCommon 155 = .ok (.return_, 1) := by decide +kernel
set_option maxRecDepth 20000 in
theorem ggX8_divideMade_X8_degreeAt : GoodIn wsX8_divideMade wsX8_degreeAt := goodIn_r _ [7] rfl (by decide +kernel)
set_option maxRecDepth 20000 in
theorem gX8_divideMade_X8_degreeAt : GoodIn wsX8_divideMade (va_wsS RX8 67 yX8_degreeAt wsX8_degreeAt) := goodIn_app (goodIn_of _ (by decide +kernel)) ggX8_divideMade_X8_degreeAt
theorem dX8_divideMade_0 : decode cX8_divideMade 0 = .ok (.aload_n 0, 1) := by decide +kernel
theorem dX8_divideMade_1 : decode cX8_divideMade 1 = .ok (.getfield 20, 3) := by decide +kernel
theorem dX8_divideMade_4 : decode cX8_divideMade 4 = .ok (.iconst 0, 1) := by decide +kernel
theorem dX8_divideMade_5 : decode cX8_divideMade 5 = .ok (.invokestatic 67, 3) := by decide +kernel
theorem dX8_divideMade_8 : decode cX8_divideMade 8 = .ok (.istore_n 1, 1) := by decide +kernel
theorem dX8_divideMade_9 : decode cX8_divideMade 9 = .ok (.iconst 0, 1) := by decide +kernel
theorem dX8_divideMade_10 : decode cX8_divideMade 10 = .ok (.istore_n 2, 1) := by decide +kernel
theorem dX8_divideMade_11 : decode cX8_divideMade 11 = .ok (.iload_n 2, 1) := by decide +kernel
theorem dX8_divideMade_12 : decode cX8_divideMade 12 = .ok (.bipush 12, 2) := by decide +kernel
theorem dX8_divideMade_14 : decode cX8_divideMade 14 = .ok (.if_icmp .ge 123, 3) := by decide +kernel
theorem dX8_divideMade_17 : decode cX8_divideMade 17 = .ok (.iconst 0, 1) := by decide +kernel
theorem dX8_divideMade_18 : decode cX8_divideMade 18 = .ok (.istore_n 3, 1) := by decide +kernel
theorem dX8_divideMade_19 : decode cX8_divideMade 19 = .ok (.iload_n 3, 1) := by decide +kernel
theorem dX8_divideMade_20 : decode cX8_divideMade 20 = .ok (.iconst 4, 1) := by decide +kernel
theorem dX8_divideMade_21 : decode cX8_divideMade 21 = .ok (.if_icmp .ge 32, 3) := by decide +kernel
theorem dX8_divideMade_24 : decode cX8_divideMade 24 = .ok (.aload_n 0, 1) := by decide +kernel
theorem dX8_divideMade_25 : decode cX8_divideMade 25 = .ok (.getfield 23, 3) := by decide +kernel
theorem dX8_divideMade_28 : decode cX8_divideMade 28 = .ok (.iload_n 3, 1) := by decide +kernel
theorem dX8_divideMade_29 : decode cX8_divideMade 29 = .ok (.aload_n 0, 1) := by decide +kernel
theorem dX8_divideMade_30 : decode cX8_divideMade 30 = .ok (.getfield 17, 3) := by decide +kernel
theorem dX8_divideMade_33 : decode cX8_divideMade 33 = .ok (.iload_n 2, 1) := by decide +kernel
theorem dX8_divideMade_34 : decode cX8_divideMade 34 = .ok (.iload_n 3, 1) := by decide +kernel
theorem dX8_divideMade_35 : decode cX8_divideMade 35 = .ok (.iadd, 1) := by decide +kernel
theorem dX8_divideMade_36 : decode cX8_divideMade 36 = .ok (.laload, 1) := by decide +kernel
theorem dX8_divideMade_37 : decode cX8_divideMade 37 = .ok (.lastore, 1) := by decide +kernel
theorem dX8_divideMade_38 : decode cX8_divideMade 38 = .ok (.aload_n 0, 1) := by decide +kernel
theorem dX8_divideMade_39 : decode cX8_divideMade 39 = .ok (.getfield 17, 3) := by decide +kernel
theorem dX8_divideMade_42 : decode cX8_divideMade 42 = .ok (.iload_n 2, 1) := by decide +kernel
theorem dX8_divideMade_43 : decode cX8_divideMade 43 = .ok (.iload_n 3, 1) := by decide +kernel
theorem dX8_divideMade_44 : decode cX8_divideMade 44 = .ok (.iadd, 1) := by decide +kernel
theorem dX8_divideMade_45 : decode cX8_divideMade 45 = .ok (.lconst 0, 1) := by decide +kernel
theorem dX8_divideMade_46 : decode cX8_divideMade 46 = .ok (.lastore, 1) := by decide +kernel
theorem dX8_divideMade_47 : decode cX8_divideMade 47 = .ok (.iinc 3 1, 3) := by decide +kernel
theorem dX8_divideMade_50 : decode cX8_divideMade 50 = .ok (.goto (-31), 3) := by decide +kernel
theorem dX8_divideMade_53 : decode cX8_divideMade 53 = .ok (.iconst 3, 1) := by decide +kernel
theorem dX8_divideMade_54 : decode cX8_divideMade 54 = .ok (.iload_n 1, 1) := by decide +kernel
theorem dX8_divideMade_55 : decode cX8_divideMade 55 = .ok (.isub, 1) := by decide +kernel
theorem dX8_divideMade_56 : decode cX8_divideMade 56 = .ok (.istore_n 3, 1) := by decide +kernel
theorem dX8_divideMade_57 : decode cX8_divideMade 57 = .ok (.iload_n 3, 1) := by decide +kernel
theorem dX8_divideMade_58 : decode cX8_divideMade 58 = .ok (.ifCond .lt 73, 3) := by decide +kernel
theorem dX8_divideMade_61 : decode cX8_divideMade 61 = .ok (.aload_n 0, 1) := by decide +kernel
theorem dX8_divideMade_62 : decode cX8_divideMade 62 = .ok (.getfield 23, 3) := by decide +kernel
theorem dX8_divideMade_65 : decode cX8_divideMade 65 = .ok (.iload_n 1, 1) := by decide +kernel
theorem dX8_divideMade_66 : decode cX8_divideMade 66 = .ok (.iload_n 3, 1) := by decide +kernel
theorem dX8_divideMade_67 : decode cX8_divideMade 67 = .ok (.iadd, 1) := by decide +kernel
theorem dX8_divideMade_68 : decode cX8_divideMade 68 = .ok (.laload, 1) := by decide +kernel
theorem dX8_divideMade_69 : decode cX8_divideMade 69 = .ok (.aload_n 0, 1) := by decide +kernel
theorem dX8_divideMade_70 : decode cX8_divideMade 70 = .ok (.getfield 20, 3) := by decide +kernel
theorem dX8_divideMade_73 : decode cX8_divideMade 73 = .ok (.iload_n 1, 1) := by decide +kernel
theorem dX8_divideMade_74 : decode cX8_divideMade 74 = .ok (.laload, 1) := by decide +kernel
theorem dX8_divideMade_75 : decode cX8_divideMade 75 = .ok (.ldiv, 1) := by decide +kernel
theorem dX8_divideMade_76 : decode cX8_divideMade 76 = .ok (.lstore 4, 2) := by decide +kernel
theorem dX8_divideMade_78 : decode cX8_divideMade 78 = .ok (.aload_n 0, 1) := by decide +kernel
theorem dX8_divideMade_79 : decode cX8_divideMade 79 = .ok (.getfield 17, 3) := by decide +kernel
theorem dX8_divideMade_82 : decode cX8_divideMade 82 = .ok (.iload_n 2, 1) := by decide +kernel
theorem dX8_divideMade_83 : decode cX8_divideMade 83 = .ok (.iload_n 3, 1) := by decide +kernel
theorem dX8_divideMade_84 : decode cX8_divideMade 84 = .ok (.iadd, 1) := by decide +kernel
theorem dX8_divideMade_85 : decode cX8_divideMade 85 = .ok (.lload 4, 2) := by decide +kernel
theorem dX8_divideMade_87 : decode cX8_divideMade 87 = .ok (.lastore, 1) := by decide +kernel
theorem dX8_divideMade_88 : decode cX8_divideMade 88 = .ok (.iconst 0, 1) := by decide +kernel
theorem dX8_divideMade_89 : decode cX8_divideMade 89 = .ok (.istore 6, 2) := by decide +kernel
theorem dX8_divideMade_91 : decode cX8_divideMade 91 = .ok (.iload 6, 2) := by decide +kernel
theorem dX8_divideMade_93 : decode cX8_divideMade 93 = .ok (.iload_n 1, 1) := by decide +kernel
theorem dX8_divideMade_94 : decode cX8_divideMade 94 = .ok (.if_icmp .gt 31, 3) := by decide +kernel
theorem dX8_divideMade_97 : decode cX8_divideMade 97 = .ok (.aload_n 0, 1) := by decide +kernel
theorem dX8_divideMade_98 : decode cX8_divideMade 98 = .ok (.getfield 23, 3) := by decide +kernel
theorem dX8_divideMade_101 : decode cX8_divideMade 101 = .ok (.iload_n 3, 1) := by decide +kernel
theorem dX8_divideMade_102 : decode cX8_divideMade 102 = .ok (.iload 6, 2) := by decide +kernel
theorem dX8_divideMade_104 : decode cX8_divideMade 104 = .ok (.iadd, 1) := by decide +kernel
theorem dX8_divideMade_105 : decode cX8_divideMade 105 = .ok (.dup2, 1) := by decide +kernel
theorem dX8_divideMade_106 : decode cX8_divideMade 106 = .ok (.laload, 1) := by decide +kernel
theorem dX8_divideMade_107 : decode cX8_divideMade 107 = .ok (.lload 4, 2) := by decide +kernel
theorem dX8_divideMade_109 : decode cX8_divideMade 109 = .ok (.aload_n 0, 1) := by decide +kernel
theorem dX8_divideMade_110 : decode cX8_divideMade 110 = .ok (.getfield 20, 3) := by decide +kernel
theorem dX8_divideMade_113 : decode cX8_divideMade 113 = .ok (.iload 6, 2) := by decide +kernel
theorem dX8_divideMade_115 : decode cX8_divideMade 115 = .ok (.laload, 1) := by decide +kernel
theorem dX8_divideMade_116 : decode cX8_divideMade 116 = .ok (.lmul, 1) := by decide +kernel
theorem dX8_divideMade_117 : decode cX8_divideMade 117 = .ok (.lsub, 1) := by decide +kernel
theorem dX8_divideMade_118 : decode cX8_divideMade 118 = .ok (.lastore, 1) := by decide +kernel
theorem dX8_divideMade_119 : decode cX8_divideMade 119 = .ok (.iinc 6 1, 3) := by decide +kernel
theorem dX8_divideMade_122 : decode cX8_divideMade 122 = .ok (.goto (-31), 3) := by decide +kernel
theorem dX8_divideMade_125 : decode cX8_divideMade 125 = .ok (.iinc 3 (-1), 3) := by decide +kernel
theorem dX8_divideMade_128 : decode cX8_divideMade 128 = .ok (.goto (-71), 3) := by decide +kernel
theorem dX8_divideMade_131 : decode cX8_divideMade 131 = .ok (.iinc 2 4, 3) := by decide +kernel
theorem dX8_divideMade_134 : decode cX8_divideMade 134 = .ok (.goto (-123), 3) := by decide +kernel
theorem dX8_divideMade_137 : decode cX8_divideMade 137 = .ok (.return_, 1) := by decide +kernel
set_option maxRecDepth 20000 in
theorem ggX8_keep_X8_degreeAt : GoodIn wsX8_keep wsX8_degreeAt := goodIn_r _ [11] rfl (by decide +kernel)
set_option maxRecDepth 20000 in
theorem gX8_keep_X8_degreeAt : GoodIn wsX8_keep (va_wsS RX8 67 yX8_degreeAt wsX8_degreeAt) := goodIn_app (goodIn_of _ (by decide +kernel)) ggX8_keep_X8_degreeAt
set_option maxRecDepth 20000 in
theorem ggX8_keep_X8_findCommon : GoodIn wsX8_keep wsX8_findCommon := goodIn_r _ [15, 2, 3, 16, 17, 10, 18, 19, 20, 21, 8, 9, 11, 22, 23, 24, 25, 26, 27, 28, 29, 30, 31, 32, 33, 34, 35, 36, 37, 38, 64, 65, 66, 67, 68, 69, 70, 71, 72, 73, 74, 75, 76, 77, 78, 79, 80, 81, 82] rfl (by decide +kernel)
set_option maxRecDepth 20000 in
theorem gX8_keep_X8_findCommon : GoodIn wsX8_keep (wsV RX8 93 RX8 yX8_findCommon wsX8_findCommon) := goodIn_app (goodIn_of _ (by decide +kernel)) ggX8_keep_X8_findCommon
set_option maxRecDepth 20000 in
theorem ggX8_keep_X8_divideMade : GoodIn wsX8_keep wsX8_divideMade := goodIn_r _ [42, 2, 3, 1, 8, 9, 10, 11, 64, 65, 66, 67, 68, 69, 70, 71, 72, 73, 74, 75, 76, 77, 78, 79, 80, 81, 82] rfl (by decide +kernel)
set_option maxRecDepth 20000 in
theorem gX8_keep_X8_divideMade : GoodIn wsX8_keep (wsV RX8 96 RX8 yX8_divideMade wsX8_divideMade) := goodIn_app (goodIn_of _ (by decide +kernel)) ggX8_keep_X8_divideMade
set_option maxRecDepth 20000 in
theorem ggX8_keep_X8_common : GoodIn wsX8_keep wsX8_common := goodIn_r _ [21] rfl (by decide +kernel)
set_option maxRecDepth 20000 in
theorem gX8_keep_X8_common : GoodIn wsX8_keep (va_wsS RX8 63 yX8_common wsX8_common) := goodIn_app (goodIn_of _ (by decide +kernel)) ggX8_keep_X8_common
set_option maxRecDepth 20000 in
theorem ggX8_keep_X8_in : GoodIn wsX8_keep wsX8_in := goodIn_r _ [38] rfl (by decide +kernel)
set_option maxRecDepth 20000 in
theorem gX8_keep_X8_in : GoodIn wsX8_keep (va_wsS RX8 79 yX8_in wsX8_in) := goodIn_app (goodIn_of _ (by decide +kernel)) ggX8_keep_X8_in
set_option maxRecDepth 20000 in
theorem ggX8_keep_X8_kindOf : GoodIn wsX8_keep wsX8_kindOf := goodIn_r _ [46, 47, 48, 49, 10, 50, 6, 8, 9, 11, 51, 52, 53, 54, 55, 56, 57, 58, 59, 60, 61, 62, 63, 64, 65, 66, 67, 68, 69, 70, 71, 72, 73, 74, 75, 76, 77, 78, 79, 80, 81, 82] rfl (by decide +kernel)
set_option maxRecDepth 20000 in
theorem gX8_keep_X8_kindOf : GoodIn wsX8_keep (wsV RX8 103 RX8 yX8_kindOf wsX8_kindOf) := goodIn_app (goodIn_of _ (by decide +kernel)) ggX8_keep_X8_kindOf
theorem dX8_keep_0 : decode cX8_keep 0 = .ok (.aload_n 0, 1) := by decide +kernel
theorem dX8_keep_1 : decode cX8_keep 1 = .ok (.getfield 17, 3) := by decide +kernel
theorem dX8_keep_4 : decode cX8_keep 4 = .ok (.bipush 8, 2) := by decide +kernel
theorem dX8_keep_6 : decode cX8_keep 6 = .ok (.invokestatic 67, 3) := by decide +kernel
theorem dX8_keep_9 : decode cX8_keep 9 = .ok (.ifCond .ge 6, 3) := by decide +kernel
theorem dX8_keep_12 : decode cX8_keep 12 = .ok (.bipush (-2), 2) := by decide +kernel
theorem dX8_keep_14 : decode cX8_keep 14 = .ok (.ireturn, 1) := by decide +kernel
theorem dX8_keep_15 : decode cX8_keep 15 = .ok (.iconst 0, 1) := by decide +kernel
theorem dX8_keep_16 : decode cX8_keep 16 = .ok (.istore_n 2, 1) := by decide +kernel
theorem dX8_keep_17 : decode cX8_keep 17 = .ok (.iload_n 2, 1) := by decide +kernel
theorem dX8_keep_18 : decode cX8_keep 18 = .ok (.iconst 4, 1) := by decide +kernel
theorem dX8_keep_19 : decode cX8_keep 19 = .ok (.if_icmp .ge 35, 3) := by decide +kernel
theorem dX8_keep_22 : decode cX8_keep 22 = .ok (.aload_n 0, 1) := by decide +kernel
theorem dX8_keep_23 : decode cX8_keep 23 = .ok (.getfield 20, 3) := by decide +kernel
theorem dX8_keep_26 : decode cX8_keep 26 = .ok (.iload_n 2, 1) := by decide +kernel
theorem dX8_keep_27 : decode cX8_keep 27 = .ok (.aload_n 0, 1) := by decide +kernel
theorem dX8_keep_28 : decode cX8_keep 28 = .ok (.getfield 17, 3) := by decide +kernel
theorem dX8_keep_31 : decode cX8_keep 31 = .ok (.iload_n 2, 1) := by decide +kernel
theorem dX8_keep_32 : decode cX8_keep 32 = .ok (.laload, 1) := by decide +kernel
theorem dX8_keep_33 : decode cX8_keep 33 = .ok (.lastore, 1) := by decide +kernel
theorem dX8_keep_34 : decode cX8_keep 34 = .ok (.aload_n 0, 1) := by decide +kernel
theorem dX8_keep_35 : decode cX8_keep 35 = .ok (.getfield 23, 3) := by decide +kernel
theorem dX8_keep_38 : decode cX8_keep 38 = .ok (.iload_n 2, 1) := by decide +kernel
theorem dX8_keep_39 : decode cX8_keep 39 = .ok (.aload_n 0, 1) := by decide +kernel
theorem dX8_keep_40 : decode cX8_keep 40 = .ok (.getfield 17, 3) := by decide +kernel
theorem dX8_keep_43 : decode cX8_keep 43 = .ok (.iconst 4, 1) := by decide +kernel
theorem dX8_keep_44 : decode cX8_keep 44 = .ok (.iload_n 2, 1) := by decide +kernel
theorem dX8_keep_45 : decode cX8_keep 45 = .ok (.iadd, 1) := by decide +kernel
theorem dX8_keep_46 : decode cX8_keep 46 = .ok (.laload, 1) := by decide +kernel
theorem dX8_keep_47 : decode cX8_keep 47 = .ok (.lastore, 1) := by decide +kernel
theorem dX8_keep_48 : decode cX8_keep 48 = .ok (.iinc 2 1, 3) := by decide +kernel
theorem dX8_keep_51 : decode cX8_keep 51 = .ok (.goto (-34), 3) := by decide +kernel
theorem dX8_keep_54 : decode cX8_keep 54 = .ok (.aload_n 0, 1) := by decide +kernel
theorem dX8_keep_55 : decode cX8_keep 55 = .ok (.invokevirtual 93, 3) := by decide +kernel
theorem dX8_keep_58 : decode cX8_keep 58 = .ok (.iconst 0, 1) := by decide +kernel
theorem dX8_keep_59 : decode cX8_keep 59 = .ok (.istore_n 2, 1) := by decide +kernel
theorem dX8_keep_60 : decode cX8_keep 60 = .ok (.iload_n 2, 1) := by decide +kernel
theorem dX8_keep_61 : decode cX8_keep 61 = .ok (.iconst 4, 1) := by decide +kernel
theorem dX8_keep_62 : decode cX8_keep 62 = .ok (.if_icmp .ge 24, 3) := by decide +kernel
theorem dX8_keep_65 : decode cX8_keep 65 = .ok (.aload_n 0, 1) := by decide +kernel
theorem dX8_keep_66 : decode cX8_keep 66 = .ok (.getfield 23, 3) := by decide +kernel
theorem dX8_keep_69 : decode cX8_keep 69 = .ok (.iload_n 2, 1) := by decide +kernel
theorem dX8_keep_70 : decode cX8_keep 70 = .ok (.aload_n 0, 1) := by decide +kernel
theorem dX8_keep_71 : decode cX8_keep 71 = .ok (.getfield 17, 3) := by decide +kernel
theorem dX8_keep_74 : decode cX8_keep 74 = .ok (.bipush 8, 2) := by decide +kernel
theorem dX8_keep_76 : decode cX8_keep 76 = .ok (.iload_n 2, 1) := by decide +kernel
theorem dX8_keep_77 : decode cX8_keep 77 = .ok (.iadd, 1) := by decide +kernel
theorem dX8_keep_78 : decode cX8_keep 78 = .ok (.laload, 1) := by decide +kernel
theorem dX8_keep_79 : decode cX8_keep 79 = .ok (.lastore, 1) := by decide +kernel
theorem dX8_keep_80 : decode cX8_keep 80 = .ok (.iinc 2 1, 3) := by decide +kernel
theorem dX8_keep_83 : decode cX8_keep 83 = .ok (.goto (-23), 3) := by decide +kernel
theorem dX8_keep_86 : decode cX8_keep 86 = .ok (.aload_n 0, 1) := by decide +kernel
theorem dX8_keep_87 : decode cX8_keep 87 = .ok (.invokevirtual 93, 3) := by decide +kernel
theorem dX8_keep_90 : decode cX8_keep 90 = .ok (.aload_n 0, 1) := by decide +kernel
theorem dX8_keep_91 : decode cX8_keep 91 = .ok (.invokevirtual 96, 3) := by decide +kernel
theorem dX8_keep_94 : decode cX8_keep 94 = .ok (.lconst 0, 1) := by decide +kernel
theorem dX8_keep_95 : decode cX8_keep 95 = .ok (.lstore_n 2, 1) := by decide +kernel
theorem dX8_keep_96 : decode cX8_keep 96 = .ok (.iconst 0, 1) := by decide +kernel
theorem dX8_keep_97 : decode cX8_keep 97 = .ok (.istore 4, 2) := by decide +kernel
theorem dX8_keep_99 : decode cX8_keep 99 = .ok (.iload 4, 2) := by decide +kernel
theorem dX8_keep_101 : decode cX8_keep 101 = .ok (.bipush 12, 2) := by decide +kernel
theorem dX8_keep_103 : decode cX8_keep 103 = .ok (.if_icmp .ge 21, 3) := by decide +kernel
theorem dX8_keep_106 : decode cX8_keep 106 = .ok (.lload_n 2, 1) := by decide +kernel
theorem dX8_keep_107 : decode cX8_keep 107 = .ok (.aload_n 0, 1) := by decide +kernel
theorem dX8_keep_108 : decode cX8_keep 108 = .ok (.getfield 17, 3) := by decide +kernel
theorem dX8_keep_111 : decode cX8_keep 111 = .ok (.iload 4, 2) := by decide +kernel
theorem dX8_keep_113 : decode cX8_keep 113 = .ok (.laload, 1) := by decide +kernel
theorem dX8_keep_114 : decode cX8_keep 114 = .ok (.invokestatic 63, 3) := by decide +kernel
theorem dX8_keep_117 : decode cX8_keep 117 = .ok (.lstore_n 2, 1) := by decide +kernel
theorem dX8_keep_118 : decode cX8_keep 118 = .ok (.iinc 4 1, 3) := by decide +kernel
theorem dX8_keep_121 : decode cX8_keep 121 = .ok (.goto (-22), 3) := by decide +kernel
theorem dX8_keep_124 : decode cX8_keep 124 = .ok (.aload_n 0, 1) := by decide +kernel
theorem dX8_keep_125 : decode cX8_keep 125 = .ok (.getfield 17, 3) := by decide +kernel
theorem dX8_keep_128 : decode cX8_keep 128 = .ok (.bipush 8, 2) := by decide +kernel
theorem dX8_keep_130 : decode cX8_keep 130 = .ok (.aload_n 0, 1) := by decide +kernel
theorem dX8_keep_131 : decode cX8_keep 131 = .ok (.getfield 17, 3) := by decide +kernel
theorem dX8_keep_134 : decode cX8_keep 134 = .ok (.bipush 8, 2) := by decide +kernel
theorem dX8_keep_136 : decode cX8_keep 136 = .ok (.invokestatic 67, 3) := by decide +kernel
theorem dX8_keep_139 : decode cX8_keep 139 = .ok (.iadd, 1) := by decide +kernel
theorem dX8_keep_140 : decode cX8_keep 140 = .ok (.laload, 1) := by decide +kernel
theorem dX8_keep_141 : decode cX8_keep 141 = .ok (.lconst 0, 1) := by decide +kernel
theorem dX8_keep_142 : decode cX8_keep 142 = .ok (.lcmp, 1) := by decide +kernel
theorem dX8_keep_143 : decode cX8_keep 143 = .ok (.ifCond .ge 8, 3) := by decide +kernel
theorem dX8_keep_146 : decode cX8_keep 146 = .ok (.lload_n 2, 1) := by decide +kernel
theorem dX8_keep_147 : decode cX8_keep 147 = .ok (.lneg, 1) := by decide +kernel
theorem dX8_keep_148 : decode cX8_keep 148 = .ok (.goto 4, 3) := by decide +kernel
theorem dX8_keep_151 : decode cX8_keep 151 = .ok (.lload_n 2, 1) := by decide +kernel
theorem dX8_keep_152 : decode cX8_keep 152 = .ok (.lstore_n 2, 1) := by decide +kernel
theorem dX8_keep_153 : decode cX8_keep 153 = .ok (.iconst 0, 1) := by decide +kernel
theorem dX8_keep_154 : decode cX8_keep 154 = .ok (.istore 4, 2) := by decide +kernel
theorem dX8_keep_156 : decode cX8_keep 156 = .ok (.iload 4, 2) := by decide +kernel
theorem dX8_keep_158 : decode cX8_keep 158 = .ok (.bipush 12, 2) := by decide +kernel
theorem dX8_keep_160 : decode cX8_keep 160 = .ok (.if_icmp .ge 42, 3) := by decide +kernel
theorem dX8_keep_163 : decode cX8_keep 163 = .ok (.aload_n 0, 1) := by decide +kernel
theorem dX8_keep_164 : decode cX8_keep 164 = .ok (.getfield 17, 3) := by decide +kernel
theorem dX8_keep_167 : decode cX8_keep 167 = .ok (.iload 4, 2) := by decide +kernel
theorem dX8_keep_169 : decode cX8_keep 169 = .ok (.dup2, 1) := by decide +kernel
theorem dX8_keep_170 : decode cX8_keep 170 = .ok (.laload, 1) := by decide +kernel
theorem dX8_keep_171 : decode cX8_keep 171 = .ok (.lload_n 2, 1) := by decide +kernel
theorem dX8_keep_172 : decode cX8_keep 172 = .ok (.ldiv, 1) := by decide +kernel
theorem dX8_keep_173 : decode cX8_keep 173 = .ok (.lastore, 1) := by decide +kernel
theorem dX8_keep_174 : decode cX8_keep 174 = .ok (.aload_n 0, 1) := by decide +kernel
theorem dX8_keep_175 : decode cX8_keep 175 = .ok (.getfield 17, 3) := by decide +kernel
theorem dX8_keep_178 : decode cX8_keep 178 = .ok (.iload 4, 2) := by decide +kernel
theorem dX8_keep_180 : decode cX8_keep 180 = .ok (.laload, 1) := by decide +kernel
theorem dX8_keep_181 : decode cX8_keep 181 = .ok (.ldc2_w 99, 3) := by decide +kernel
theorem dX8_keep_184 : decode cX8_keep 184 = .ok (.ldc2_w 101, 3) := by decide +kernel
theorem dX8_keep_187 : decode cX8_keep 187 = .ok (.invokestatic 79, 3) := by decide +kernel
theorem dX8_keep_190 : decode cX8_keep 190 = .ok (.ifCond .ne 6, 3) := by decide +kernel
theorem dX8_keep_193 : decode cX8_keep 193 = .ok (.bipush (-2), 2) := by decide +kernel
theorem dX8_keep_195 : decode cX8_keep 195 = .ok (.ireturn, 1) := by decide +kernel
theorem dX8_keep_196 : decode cX8_keep 196 = .ok (.iinc 4 1, 3) := by decide +kernel
theorem dX8_keep_199 : decode cX8_keep 199 = .ok (.goto (-43), 3) := by decide +kernel
theorem dX8_keep_202 : decode cX8_keep 202 = .ok (.iconst 0, 1) := by decide +kernel
theorem dX8_keep_203 : decode cX8_keep 203 = .ok (.istore 4, 2) := by decide +kernel
theorem dX8_keep_205 : decode cX8_keep 205 = .ok (.iload 4, 2) := by decide +kernel
theorem dX8_keep_207 : decode cX8_keep 207 = .ok (.bipush 12, 2) := by decide +kernel
theorem dX8_keep_209 : decode cX8_keep 209 = .ok (.if_icmp .ge 28, 3) := by decide +kernel
theorem dX8_keep_212 : decode cX8_keep 212 = .ok (.aload_n 0, 1) := by decide +kernel
theorem dX8_keep_213 : decode cX8_keep 213 = .ok (.getfield 13, 3) := by decide +kernel
theorem dX8_keep_216 : decode cX8_keep 216 = .ok (.bipush 12, 2) := by decide +kernel
theorem dX8_keep_218 : decode cX8_keep 218 = .ok (.iload_n 1, 1) := by decide +kernel
theorem dX8_keep_219 : decode cX8_keep 219 = .ok (.imul, 1) := by decide +kernel
theorem dX8_keep_220 : decode cX8_keep 220 = .ok (.iload 4, 2) := by decide +kernel
theorem dX8_keep_222 : decode cX8_keep 222 = .ok (.iadd, 1) := by decide +kernel
theorem dX8_keep_223 : decode cX8_keep 223 = .ok (.aload_n 0, 1) := by decide +kernel
theorem dX8_keep_224 : decode cX8_keep 224 = .ok (.getfield 17, 3) := by decide +kernel
theorem dX8_keep_227 : decode cX8_keep 227 = .ok (.iload 4, 2) := by decide +kernel
theorem dX8_keep_229 : decode cX8_keep 229 = .ok (.laload, 1) := by decide +kernel
theorem dX8_keep_230 : decode cX8_keep 230 = .ok (.lastore, 1) := by decide +kernel
theorem dX8_keep_231 : decode cX8_keep 231 = .ok (.iinc 4 1, 3) := by decide +kernel
theorem dX8_keep_234 : decode cX8_keep 234 = .ok (.goto (-29), 3) := by decide +kernel
theorem dX8_keep_237 : decode cX8_keep 237 = .ok (.aload_n 0, 1) := by decide +kernel
theorem dX8_keep_238 : decode cX8_keep 238 = .ok (.getfield 7, 3) := by decide +kernel
theorem dX8_keep_241 : decode cX8_keep 241 = .ok (.iload_n 1, 1) := by decide +kernel
theorem dX8_keep_242 : decode cX8_keep 242 = .ok (.iconst 1, 1) := by decide +kernel
theorem dX8_keep_243 : decode cX8_keep 243 = .ok (.bastore, 1) := by decide +kernel
theorem dX8_keep_244 : decode cX8_keep 244 = .ok (.aload_n 0, 1) := by decide +kernel
theorem dX8_keep_245 : decode cX8_keep 245 = .ok (.iload_n 1, 1) := by decide +kernel
theorem dX8_keep_246 : decode cX8_keep 246 = .ok (.invokevirtual 103, 3) := by decide +kernel
theorem dX8_keep_249 : decode cX8_keep 249 = .ok (.ireturn, 1) := by decide +kernel
set_option maxRecDepth 20000 in
theorem ggX8_degreeOf_X8_degreeAt : GoodIn wsX8_degreeOf wsX8_degreeAt := goodIn_r _ [5] rfl (by decide +kernel)
set_option maxRecDepth 20000 in
theorem gX8_degreeOf_X8_degreeAt : GoodIn wsX8_degreeOf (va_wsS RX8 67 yX8_degreeAt wsX8_degreeAt) := goodIn_app (goodIn_of _ (by decide +kernel)) ggX8_degreeOf_X8_degreeAt
theorem dX8_degreeOf_0 : decode cX8_degreeOf 0 = .ok (.iconst 0, 1) := by decide +kernel
theorem dX8_degreeOf_1 : decode cX8_degreeOf 1 = .ok (.istore_n 2, 1) := by decide +kernel
theorem dX8_degreeOf_2 : decode cX8_degreeOf 2 = .ok (.iconst 0, 1) := by decide +kernel
theorem dX8_degreeOf_3 : decode cX8_degreeOf 3 = .ok (.istore_n 3, 1) := by decide +kernel
theorem dX8_degreeOf_4 : decode cX8_degreeOf 4 = .ok (.iload_n 3, 1) := by decide +kernel
theorem dX8_degreeOf_5 : decode cX8_degreeOf 5 = .ok (.bipush 12, 2) := by decide +kernel
theorem dX8_degreeOf_7 : decode cX8_degreeOf 7 = .ok (.if_icmp .ge 37, 3) := by decide +kernel
theorem dX8_degreeOf_10 : decode cX8_degreeOf 10 = .ok (.aload_n 0, 1) := by decide +kernel
theorem dX8_degreeOf_11 : decode cX8_degreeOf 11 = .ok (.getfield 13, 3) := by decide +kernel
theorem dX8_degreeOf_14 : decode cX8_degreeOf 14 = .ok (.bipush 12, 2) := by decide +kernel
theorem dX8_degreeOf_16 : decode cX8_degreeOf 16 = .ok (.iload_n 1, 1) := by decide +kernel
theorem dX8_degreeOf_17 : decode cX8_degreeOf 17 = .ok (.imul, 1) := by decide +kernel
theorem dX8_degreeOf_18 : decode cX8_degreeOf 18 = .ok (.iload_n 3, 1) := by decide +kernel
theorem dX8_degreeOf_19 : decode cX8_degreeOf 19 = .ok (.iadd, 1) := by decide +kernel
theorem dX8_degreeOf_20 : decode cX8_degreeOf 20 = .ok (.invokestatic 67, 3) := by decide +kernel
theorem dX8_degreeOf_23 : decode cX8_degreeOf 23 = .ok (.istore 4, 2) := by decide +kernel
theorem dX8_degreeOf_25 : decode cX8_degreeOf 25 = .ok (.iload 4, 2) := by decide +kernel
theorem dX8_degreeOf_27 : decode cX8_degreeOf 27 = .ok (.iload_n 2, 1) := by decide +kernel
theorem dX8_degreeOf_28 : decode cX8_degreeOf 28 = .ok (.if_icmp .le 8, 3) := by decide +kernel
theorem dX8_degreeOf_31 : decode cX8_degreeOf 31 = .ok (.iload 4, 2) := by decide +kernel
theorem dX8_degreeOf_33 : decode cX8_degreeOf 33 = .ok (.goto 4, 3) := by decide +kernel
theorem dX8_degreeOf_36 : decode cX8_degreeOf 36 = .ok (.iload_n 2, 1) := by decide +kernel
theorem dX8_degreeOf_37 : decode cX8_degreeOf 37 = .ok (.istore_n 2, 1) := by decide +kernel
theorem dX8_degreeOf_38 : decode cX8_degreeOf 38 = .ok (.iinc 3 4, 3) := by decide +kernel
theorem dX8_degreeOf_41 : decode cX8_degreeOf 41 = .ok (.goto (-37), 3) := by decide +kernel
theorem dX8_degreeOf_44 : decode cX8_degreeOf 44 = .ok (.iload_n 2, 1) := by decide +kernel
theorem dX8_degreeOf_45 : decode cX8_degreeOf 45 = .ok (.ireturn, 1) := by decide +kernel
set_option maxRecDepth 20000 in
theorem ggX8_findStraight_X8_cross : GoodIn wsX8_findStraight wsX8_cross := goodIn_r _ [7, 2, 8, 9, 10, 11, 12, 13, 14, 15, 16, 17, 18, 19, 20, 21, 22, 23, 24, 25, 26] rfl (by decide +kernel)
set_option maxRecDepth 20000 in
theorem gX8_findStraight_X8_cross : GoodIn wsX8_findStraight (wsV RX8 107 RX8 yX8_cross wsX8_cross) := goodIn_app (goodIn_of _ (by decide +kernel)) ggX8_findStraight_X8_cross
theorem dX8_findStraight_0 : decode cX8_findStraight 0 = .ok (.bipush 12, 2) := by decide +kernel
theorem dX8_findStraight_2 : decode cX8_findStraight 2 = .ok (.iload_n 1, 1) := by decide +kernel
theorem dX8_findStraight_3 : decode cX8_findStraight 3 = .ok (.imul, 1) := by decide +kernel
theorem dX8_findStraight_4 : decode cX8_findStraight 4 = .ok (.istore 4, 2) := by decide +kernel
theorem dX8_findStraight_6 : decode cX8_findStraight 6 = .ok (.aload_n 0, 1) := by decide +kernel
theorem dX8_findStraight_7 : decode cX8_findStraight 7 = .ok (.aload_n 0, 1) := by decide +kernel
theorem dX8_findStraight_8 : decode cX8_findStraight 8 = .ok (.getfield 13, 3) := by decide +kernel
theorem dX8_findStraight_11 : decode cX8_findStraight 11 = .ok (.iload 4, 2) := by decide +kernel
theorem dX8_findStraight_13 : decode cX8_findStraight 13 = .ok (.iload_n 2, 1) := by decide +kernel
theorem dX8_findStraight_14 : decode cX8_findStraight 14 = .ok (.iadd, 1) := by decide +kernel
theorem dX8_findStraight_15 : decode cX8_findStraight 15 = .ok (.laload, 1) := by decide +kernel
theorem dX8_findStraight_16 : decode cX8_findStraight 16 = .ok (.aload_n 0, 1) := by decide +kernel
theorem dX8_findStraight_17 : decode cX8_findStraight 17 = .ok (.getfield 13, 3) := by decide +kernel
theorem dX8_findStraight_20 : decode cX8_findStraight 20 = .ok (.iload 4, 2) := by decide +kernel
theorem dX8_findStraight_22 : decode cX8_findStraight 22 = .ok (.iconst 4, 1) := by decide +kernel
theorem dX8_findStraight_23 : decode cX8_findStraight 23 = .ok (.iadd, 1) := by decide +kernel
theorem dX8_findStraight_24 : decode cX8_findStraight 24 = .ok (.iload_n 2, 1) := by decide +kernel
theorem dX8_findStraight_25 : decode cX8_findStraight 25 = .ok (.iadd, 1) := by decide +kernel
theorem dX8_findStraight_26 : decode cX8_findStraight 26 = .ok (.laload, 1) := by decide +kernel
theorem dX8_findStraight_27 : decode cX8_findStraight 27 = .ok (.aload_n 0, 1) := by decide +kernel
theorem dX8_findStraight_28 : decode cX8_findStraight 28 = .ok (.getfield 13, 3) := by decide +kernel
theorem dX8_findStraight_31 : decode cX8_findStraight 31 = .ok (.iload 4, 2) := by decide +kernel
theorem dX8_findStraight_33 : decode cX8_findStraight 33 = .ok (.bipush 8, 2) := by decide +kernel
theorem dX8_findStraight_35 : decode cX8_findStraight 35 = .ok (.iadd, 1) := by decide +kernel
theorem dX8_findStraight_36 : decode cX8_findStraight 36 = .ok (.iload_n 2, 1) := by decide +kernel
theorem dX8_findStraight_37 : decode cX8_findStraight 37 = .ok (.iadd, 1) := by decide +kernel
theorem dX8_findStraight_38 : decode cX8_findStraight 38 = .ok (.laload, 1) := by decide +kernel
theorem dX8_findStraight_39 : decode cX8_findStraight 39 = .ok (.aload_n 0, 1) := by decide +kernel
theorem dX8_findStraight_40 : decode cX8_findStraight 40 = .ok (.getfield 13, 3) := by decide +kernel
theorem dX8_findStraight_43 : decode cX8_findStraight 43 = .ok (.iload 4, 2) := by decide +kernel
theorem dX8_findStraight_45 : decode cX8_findStraight 45 = .ok (.iload_n 3, 1) := by decide +kernel
theorem dX8_findStraight_46 : decode cX8_findStraight 46 = .ok (.iadd, 1) := by decide +kernel
theorem dX8_findStraight_47 : decode cX8_findStraight 47 = .ok (.laload, 1) := by decide +kernel
theorem dX8_findStraight_48 : decode cX8_findStraight 48 = .ok (.aload_n 0, 1) := by decide +kernel
theorem dX8_findStraight_49 : decode cX8_findStraight 49 = .ok (.getfield 13, 3) := by decide +kernel
theorem dX8_findStraight_52 : decode cX8_findStraight 52 = .ok (.iload 4, 2) := by decide +kernel
theorem dX8_findStraight_54 : decode cX8_findStraight 54 = .ok (.iconst 4, 1) := by decide +kernel
theorem dX8_findStraight_55 : decode cX8_findStraight 55 = .ok (.iadd, 1) := by decide +kernel
theorem dX8_findStraight_56 : decode cX8_findStraight 56 = .ok (.iload_n 3, 1) := by decide +kernel
theorem dX8_findStraight_57 : decode cX8_findStraight 57 = .ok (.iadd, 1) := by decide +kernel
theorem dX8_findStraight_58 : decode cX8_findStraight 58 = .ok (.laload, 1) := by decide +kernel
theorem dX8_findStraight_59 : decode cX8_findStraight 59 = .ok (.aload_n 0, 1) := by decide +kernel
theorem dX8_findStraight_60 : decode cX8_findStraight 60 = .ok (.getfield 13, 3) := by decide +kernel
theorem dX8_findStraight_63 : decode cX8_findStraight 63 = .ok (.iload 4, 2) := by decide +kernel
theorem dX8_findStraight_65 : decode cX8_findStraight 65 = .ok (.bipush 8, 2) := by decide +kernel
theorem dX8_findStraight_67 : decode cX8_findStraight 67 = .ok (.iadd, 1) := by decide +kernel
theorem dX8_findStraight_68 : decode cX8_findStraight 68 = .ok (.iload_n 3, 1) := by decide +kernel
theorem dX8_findStraight_69 : decode cX8_findStraight 69 = .ok (.iadd, 1) := by decide +kernel
theorem dX8_findStraight_70 : decode cX8_findStraight 70 = .ok (.laload, 1) := by decide +kernel
theorem dX8_findStraight_71 : decode cX8_findStraight 71 = .ok (.invokevirtual 107, 3) := by decide +kernel
theorem dX8_findStraight_74 : decode cX8_findStraight 74 = .ok (.aload_n 0, 1) := by decide +kernel
theorem dX8_findStraight_75 : decode cX8_findStraight 75 = .ok (.getfield 26, 3) := by decide +kernel
theorem dX8_findStraight_78 : decode cX8_findStraight 78 = .ok (.iconst 0, 1) := by decide +kernel
theorem dX8_findStraight_79 : decode cX8_findStraight 79 = .ok (.laload, 1) := by decide +kernel
theorem dX8_findStraight_80 : decode cX8_findStraight 80 = .ok (.lconst 0, 1) := by decide +kernel
theorem dX8_findStraight_81 : decode cX8_findStraight 81 = .ok (.lcmp, 1) := by decide +kernel
theorem dX8_findStraight_82 : decode cX8_findStraight 82 = .ok (.ifCond .ne 25, 3) := by decide +kernel
theorem dX8_findStraight_85 : decode cX8_findStraight 85 = .ok (.aload_n 0, 1) := by decide +kernel
theorem dX8_findStraight_86 : decode cX8_findStraight 86 = .ok (.getfield 26, 3) := by decide +kernel
theorem dX8_findStraight_89 : decode cX8_findStraight 89 = .ok (.iconst 1, 1) := by decide +kernel
theorem dX8_findStraight_90 : decode cX8_findStraight 90 = .ok (.laload, 1) := by decide +kernel
theorem dX8_findStraight_91 : decode cX8_findStraight 91 = .ok (.lconst 0, 1) := by decide +kernel
theorem dX8_findStraight_92 : decode cX8_findStraight 92 = .ok (.lcmp, 1) := by decide +kernel
theorem dX8_findStraight_93 : decode cX8_findStraight 93 = .ok (.ifCond .ne 14, 3) := by decide +kernel
theorem dX8_findStraight_96 : decode cX8_findStraight 96 = .ok (.aload_n 0, 1) := by decide +kernel
theorem dX8_findStraight_97 : decode cX8_findStraight 97 = .ok (.getfield 26, 3) := by decide +kernel
theorem dX8_findStraight_100 : decode cX8_findStraight 100 = .ok (.iconst 2, 1) := by decide +kernel
theorem dX8_findStraight_101 : decode cX8_findStraight 101 = .ok (.laload, 1) := by decide +kernel
theorem dX8_findStraight_102 : decode cX8_findStraight 102 = .ok (.lconst 0, 1) := by decide +kernel
theorem dX8_findStraight_103 : decode cX8_findStraight 103 = .ok (.lcmp, 1) := by decide +kernel
theorem dX8_findStraight_104 : decode cX8_findStraight 104 = .ok (.ifCond .eq 7, 3) := by decide +kernel
theorem dX8_findStraight_107 : decode cX8_findStraight 107 = .ok (.iconst 1, 1) := by decide +kernel
theorem dX8_findStraight_108 : decode cX8_findStraight 108 = .ok (.goto 4, 3) := by decide +kernel
theorem dX8_findStraight_111 : decode cX8_findStraight 111 = .ok (.iconst 0, 1) := by decide +kernel
theorem dX8_findStraight_112 : decode cX8_findStraight 112 = .ok (.ireturn, 1) := by decide +kernel
theorem dX8_cross_0 : decode cX8_cross 0 = .ok (.aload_n 0, 1) := by decide +kernel
theorem dX8_cross_1 : decode cX8_cross 1 = .ok (.getfield 26, 3) := by decide +kernel
theorem dX8_cross_4 : decode cX8_cross 4 = .ok (.iconst 0, 1) := by decide +kernel
theorem dX8_cross_5 : decode cX8_cross 5 = .ok (.lload_n 3, 1) := by decide +kernel
theorem dX8_cross_6 : decode cX8_cross 6 = .ok (.lload 11, 2) := by decide +kernel
theorem dX8_cross_8 : decode cX8_cross 8 = .ok (.lmul, 1) := by decide +kernel
theorem dX8_cross_9 : decode cX8_cross 9 = .ok (.lload 5, 2) := by decide +kernel
theorem dX8_cross_11 : decode cX8_cross 11 = .ok (.lload 9, 2) := by decide +kernel
theorem dX8_cross_13 : decode cX8_cross 13 = .ok (.lmul, 1) := by decide +kernel
theorem dX8_cross_14 : decode cX8_cross 14 = .ok (.lsub, 1) := by decide +kernel
theorem dX8_cross_15 : decode cX8_cross 15 = .ok (.lastore, 1) := by decide +kernel
theorem dX8_cross_16 : decode cX8_cross 16 = .ok (.aload_n 0, 1) := by decide +kernel
theorem dX8_cross_17 : decode cX8_cross 17 = .ok (.getfield 26, 3) := by decide +kernel
theorem dX8_cross_20 : decode cX8_cross 20 = .ok (.iconst 1, 1) := by decide +kernel
theorem dX8_cross_21 : decode cX8_cross 21 = .ok (.lload 5, 2) := by decide +kernel
theorem dX8_cross_23 : decode cX8_cross 23 = .ok (.lload 7, 2) := by decide +kernel
theorem dX8_cross_25 : decode cX8_cross 25 = .ok (.lmul, 1) := by decide +kernel
theorem dX8_cross_26 : decode cX8_cross 26 = .ok (.lload_n 1, 1) := by decide +kernel
theorem dX8_cross_27 : decode cX8_cross 27 = .ok (.lload 11, 2) := by decide +kernel
theorem dX8_cross_29 : decode cX8_cross 29 = .ok (.lmul, 1) := by decide +kernel
theorem dX8_cross_30 : decode cX8_cross 30 = .ok (.lsub, 1) := by decide +kernel
theorem dX8_cross_31 : decode cX8_cross 31 = .ok (.lastore, 1) := by decide +kernel
theorem dX8_cross_32 : decode cX8_cross 32 = .ok (.aload_n 0, 1) := by decide +kernel
theorem dX8_cross_33 : decode cX8_cross 33 = .ok (.getfield 26, 3) := by decide +kernel
theorem dX8_cross_36 : decode cX8_cross 36 = .ok (.iconst 2, 1) := by decide +kernel
theorem dX8_cross_37 : decode cX8_cross 37 = .ok (.lload_n 1, 1) := by decide +kernel
theorem dX8_cross_38 : decode cX8_cross 38 = .ok (.lload 9, 2) := by decide +kernel
theorem dX8_cross_40 : decode cX8_cross 40 = .ok (.lmul, 1) := by decide +kernel
theorem dX8_cross_41 : decode cX8_cross 41 = .ok (.lload_n 3, 1) := by decide +kernel
theorem dX8_cross_42 : decode cX8_cross 42 = .ok (.lload 7, 2) := by decide +kernel
theorem dX8_cross_44 : decode cX8_cross 44 = .ok (.lmul, 1) := by decide +kernel
theorem dX8_cross_45 : decode cX8_cross 45 = .ok (.lsub, 1) := by decide +kernel
theorem dX8_cross_46 : decode cX8_cross 46 = .ok (.lastore, 1) := by decide +kernel
theorem dX8_cross_47 : decode cX8_cross 47 = .ok (.return_, 1) := by decide +kernel
set_option maxRecDepth 20000 in
theorem ggX8_isStraight_X8_degreeOf : GoodIn wsX8_isStraight wsX8_degreeOf := goodIn_r _ [7, 2, 8, 9, 6, 10, 19, 20, 21, 22, 23, 24, 25, 26, 27, 28, 29, 30, 31, 32, 33, 34, 35, 36, 37] rfl (by decide +kernel)
set_option maxRecDepth 20000 in
theorem gX8_isStraight_X8_degreeOf : GoodIn wsX8_isStraight (wsV RX8 111 RX8 yX8_degreeOf wsX8_degreeOf) := goodIn_app (goodIn_of _ (by decide +kernel)) ggX8_isStraight_X8_degreeOf
set_option maxRecDepth 20000 in
theorem ggX8_isStraight_X8_findStraight : GoodIn wsX8_isStraight wsX8_findStraight := goodIn_r _ [14, 2, 1, 15, 16, 17, 6, 18, 19, 20, 21, 22, 23, 24, 25, 26, 27, 28, 29, 30, 31, 32, 33, 34, 35, 36, 37] rfl (by decide +kernel)
set_option maxRecDepth 20000 in
theorem gX8_isStraight_X8_findStraight : GoodIn wsX8_isStraight (wsV RX8 114 RX8 yX8_findStraight wsX8_findStraight) := goodIn_app (goodIn_of _ (by decide +kernel)) ggX8_isStraight_X8_findStraight
theorem dX8_isStraight_0 : decode cX8_isStraight 0 = .ok (.aload_n 0, 1) := by decide +kernel
theorem dX8_isStraight_1 : decode cX8_isStraight 1 = .ok (.iload_n 1, 1) := by decide +kernel
theorem dX8_isStraight_2 : decode cX8_isStraight 2 = .ok (.invokevirtual 111, 3) := by decide +kernel
theorem dX8_isStraight_5 : decode cX8_isStraight 5 = .ok (.istore_n 2, 1) := by decide +kernel
theorem dX8_isStraight_6 : decode cX8_isStraight 6 = .ok (.iconst 0, 1) := by decide +kernel
theorem dX8_isStraight_7 : decode cX8_isStraight 7 = .ok (.istore_n 3, 1) := by decide +kernel
theorem dX8_isStraight_8 : decode cX8_isStraight 8 = .ok (.iconst 0, 1) := by decide +kernel
theorem dX8_isStraight_9 : decode cX8_isStraight 9 = .ok (.istore 4, 2) := by decide +kernel
theorem dX8_isStraight_11 : decode cX8_isStraight 11 = .ok (.iload 4, 2) := by decide +kernel
theorem dX8_isStraight_13 : decode cX8_isStraight 13 = .ok (.iload_n 2, 1) := by decide +kernel
theorem dX8_isStraight_14 : decode cX8_isStraight 14 = .ok (.if_icmp .ge 45, 3) := by decide +kernel
theorem dX8_isStraight_17 : decode cX8_isStraight 17 = .ok (.iload_n 3, 1) := by decide +kernel
theorem dX8_isStraight_18 : decode cX8_isStraight 18 = .ok (.ifCond .ne 41, 3) := by decide +kernel
theorem dX8_isStraight_21 : decode cX8_isStraight 21 = .ok (.iload 4, 2) := by decide +kernel
theorem dX8_isStraight_23 : decode cX8_isStraight 23 = .ok (.iconst 1, 1) := by decide +kernel
theorem dX8_isStraight_24 : decode cX8_isStraight 24 = .ok (.iadd, 1) := by decide +kernel
theorem dX8_isStraight_25 : decode cX8_isStraight 25 = .ok (.istore 5, 2) := by decide +kernel
theorem dX8_isStraight_27 : decode cX8_isStraight 27 = .ok (.iload 5, 2) := by decide +kernel
theorem dX8_isStraight_29 : decode cX8_isStraight 29 = .ok (.iload_n 2, 1) := by decide +kernel
theorem dX8_isStraight_30 : decode cX8_isStraight 30 = .ok (.if_icmp .gt 23, 3) := by decide +kernel
theorem dX8_isStraight_33 : decode cX8_isStraight 33 = .ok (.iload_n 3, 1) := by decide +kernel
theorem dX8_isStraight_34 : decode cX8_isStraight 34 = .ok (.ifCond .ne 19, 3) := by decide +kernel
theorem dX8_isStraight_37 : decode cX8_isStraight 37 = .ok (.aload_n 0, 1) := by decide +kernel
theorem dX8_isStraight_38 : decode cX8_isStraight 38 = .ok (.iload_n 1, 1) := by decide +kernel
theorem dX8_isStraight_39 : decode cX8_isStraight 39 = .ok (.iload 4, 2) := by decide +kernel
theorem dX8_isStraight_41 : decode cX8_isStraight 41 = .ok (.iload 5, 2) := by decide +kernel
theorem dX8_isStraight_43 : decode cX8_isStraight 43 = .ok (.invokevirtual 114, 3) := by decide +kernel
theorem dX8_isStraight_46 : decode cX8_isStraight 46 = .ok (.istore_n 3, 1) := by decide +kernel
theorem dX8_isStraight_47 : decode cX8_isStraight 47 = .ok (.iinc 5 1, 3) := by decide +kernel
theorem dX8_isStraight_50 : decode cX8_isStraight 50 = .ok (.goto (-23), 3) := by decide +kernel
theorem dX8_isStraight_53 : decode cX8_isStraight 53 = .ok (.iinc 4 1, 3) := by decide +kernel
theorem dX8_isStraight_56 : decode cX8_isStraight 56 = .ok (.goto (-45), 3) := by decide +kernel
theorem dX8_isStraight_59 : decode cX8_isStraight 59 = .ok (.iload_n 3, 1) := by decide +kernel
theorem dX8_isStraight_60 : decode cX8_isStraight 60 = .ok (.istore 4, 2) := by decide +kernel
theorem dX8_isStraight_62 : decode cX8_isStraight 62 = .ok (.iconst 0, 1) := by decide +kernel
theorem dX8_isStraight_63 : decode cX8_isStraight 63 = .ok (.istore 5, 2) := by decide +kernel
theorem dX8_isStraight_65 : decode cX8_isStraight 65 = .ok (.iload 5, 2) := by decide +kernel
theorem dX8_isStraight_67 : decode cX8_isStraight 67 = .ok (.iconst 4, 1) := by decide +kernel
theorem dX8_isStraight_68 : decode cX8_isStraight 68 = .ok (.if_icmp .ge 84, 3) := by decide +kernel
theorem dX8_isStraight_71 : decode cX8_isStraight 71 = .ok (.bipush 12, 2) := by decide +kernel
theorem dX8_isStraight_73 : decode cX8_isStraight 73 = .ok (.iload_n 1, 1) := by decide +kernel
theorem dX8_isStraight_74 : decode cX8_isStraight 74 = .ok (.imul, 1) := by decide +kernel
theorem dX8_isStraight_75 : decode cX8_isStraight 75 = .ok (.iload 5, 2) := by decide +kernel
theorem dX8_isStraight_77 : decode cX8_isStraight 77 = .ok (.iadd, 1) := by decide +kernel
theorem dX8_isStraight_78 : decode cX8_isStraight 78 = .ok (.istore 6, 2) := by decide +kernel
theorem dX8_isStraight_80 : decode cX8_isStraight 80 = .ok (.iload 4, 2) := by decide +kernel
theorem dX8_isStraight_82 : decode cX8_isStraight 82 = .ok (.ifCond .eq 61, 3) := by decide +kernel
theorem dX8_isStraight_85 : decode cX8_isStraight 85 = .ok (.aload_n 0, 1) := by decide +kernel
theorem dX8_isStraight_86 : decode cX8_isStraight 86 = .ok (.getfield 26, 3) := by decide +kernel
theorem dX8_isStraight_89 : decode cX8_isStraight 89 = .ok (.iconst 0, 1) := by decide +kernel
theorem dX8_isStraight_90 : decode cX8_isStraight 90 = .ok (.laload, 1) := by decide +kernel
theorem dX8_isStraight_91 : decode cX8_isStraight 91 = .ok (.aload_n 0, 1) := by decide +kernel
theorem dX8_isStraight_92 : decode cX8_isStraight 92 = .ok (.getfield 13, 3) := by decide +kernel
theorem dX8_isStraight_95 : decode cX8_isStraight 95 = .ok (.iload 6, 2) := by decide +kernel
theorem dX8_isStraight_97 : decode cX8_isStraight 97 = .ok (.laload, 1) := by decide +kernel
theorem dX8_isStraight_98 : decode cX8_isStraight 98 = .ok (.lmul, 1) := by decide +kernel
theorem dX8_isStraight_99 : decode cX8_isStraight 99 = .ok (.aload_n 0, 1) := by decide +kernel
theorem dX8_isStraight_100 : decode cX8_isStraight 100 = .ok (.getfield 26, 3) := by decide +kernel
theorem dX8_isStraight_103 : decode cX8_isStraight 103 = .ok (.iconst 1, 1) := by decide +kernel
theorem dX8_isStraight_104 : decode cX8_isStraight 104 = .ok (.laload, 1) := by decide +kernel
theorem dX8_isStraight_105 : decode cX8_isStraight 105 = .ok (.aload_n 0, 1) := by decide +kernel
theorem dX8_isStraight_106 : decode cX8_isStraight 106 = .ok (.getfield 13, 3) := by decide +kernel
theorem dX8_isStraight_109 : decode cX8_isStraight 109 = .ok (.iload 6, 2) := by decide +kernel
theorem dX8_isStraight_111 : decode cX8_isStraight 111 = .ok (.iconst 4, 1) := by decide +kernel
theorem dX8_isStraight_112 : decode cX8_isStraight 112 = .ok (.iadd, 1) := by decide +kernel
theorem dX8_isStraight_113 : decode cX8_isStraight 113 = .ok (.laload, 1) := by decide +kernel
theorem dX8_isStraight_114 : decode cX8_isStraight 114 = .ok (.lmul, 1) := by decide +kernel
theorem dX8_isStraight_115 : decode cX8_isStraight 115 = .ok (.ladd, 1) := by decide +kernel
theorem dX8_isStraight_116 : decode cX8_isStraight 116 = .ok (.aload_n 0, 1) := by decide +kernel
theorem dX8_isStraight_117 : decode cX8_isStraight 117 = .ok (.getfield 26, 3) := by decide +kernel
theorem dX8_isStraight_120 : decode cX8_isStraight 120 = .ok (.iconst 2, 1) := by decide +kernel
theorem dX8_isStraight_121 : decode cX8_isStraight 121 = .ok (.laload, 1) := by decide +kernel
theorem dX8_isStraight_122 : decode cX8_isStraight 122 = .ok (.aload_n 0, 1) := by decide +kernel
theorem dX8_isStraight_123 : decode cX8_isStraight 123 = .ok (.getfield 13, 3) := by decide +kernel
theorem dX8_isStraight_126 : decode cX8_isStraight 126 = .ok (.iload 6, 2) := by decide +kernel
theorem dX8_isStraight_128 : decode cX8_isStraight 128 = .ok (.bipush 8, 2) := by decide +kernel
theorem dX8_isStraight_130 : decode cX8_isStraight 130 = .ok (.iadd, 1) := by decide +kernel
theorem dX8_isStraight_131 : decode cX8_isStraight 131 = .ok (.laload, 1) := by decide +kernel
theorem dX8_isStraight_132 : decode cX8_isStraight 132 = .ok (.lmul, 1) := by decide +kernel
theorem dX8_isStraight_133 : decode cX8_isStraight 133 = .ok (.ladd, 1) := by decide +kernel
theorem dX8_isStraight_134 : decode cX8_isStraight 134 = .ok (.lconst 0, 1) := by decide +kernel
theorem dX8_isStraight_135 : decode cX8_isStraight 135 = .ok (.lcmp, 1) := by decide +kernel
theorem dX8_isStraight_136 : decode cX8_isStraight 136 = .ok (.ifCond .ne 7, 3) := by decide +kernel
theorem dX8_isStraight_139 : decode cX8_isStraight 139 = .ok (.iconst 1, 1) := by decide +kernel
theorem dX8_isStraight_140 : decode cX8_isStraight 140 = .ok (.goto 4, 3) := by decide +kernel
theorem dX8_isStraight_143 : decode cX8_isStraight 143 = .ok (.iconst 0, 1) := by decide +kernel
theorem dX8_isStraight_144 : decode cX8_isStraight 144 = .ok (.istore 4, 2) := by decide +kernel
theorem dX8_isStraight_146 : decode cX8_isStraight 146 = .ok (.iinc 5 1, 3) := by decide +kernel
theorem dX8_isStraight_149 : decode cX8_isStraight 149 = .ok (.goto (-84), 3) := by decide +kernel
theorem dX8_isStraight_152 : decode cX8_isStraight 152 = .ok (.iload 4, 2) := by decide +kernel
theorem dX8_isStraight_154 : decode cX8_isStraight 154 = .ok (.ireturn, 1) := by decide +kernel
set_option maxRecDepth 20000 in
theorem ggX8_kindOf_X8_degreeOf : GoodIn wsX8_kindOf wsX8_degreeOf := goodIn_r _ [5, 6, 7, 8, 4, 9, 23, 24, 25, 26, 27, 28, 29, 30, 31, 32, 33, 34, 35, 36, 37, 38, 39, 40, 41] rfl (by decide +kernel)
set_option maxRecDepth 20000 in
theorem gX8_kindOf_X8_degreeOf : GoodIn wsX8_kindOf (wsV RX8 111 RX8 yX8_degreeOf wsX8_degreeOf) := goodIn_app (goodIn_of _ (by decide +kernel)) ggX8_kindOf_X8_degreeOf
set_option maxRecDepth 20000 in
theorem ggX8_kindOf_X8_isStraight : GoodIn wsX8_kindOf wsX8_isStraight := goodIn_r _ [13, 14, 6, 1, 2, 3, 4, 5, 7, 8, 9, 15, 16, 17, 18, 19, 20, 21, 22, 23, 24, 25, 26, 27, 28, 29, 30, 31, 32, 33, 34, 35, 36, 37, 38, 39, 40, 41] rfl (by decide +kernel)
set_option maxRecDepth 20000 in
theorem gX8_kindOf_X8_isStraight : GoodIn wsX8_kindOf (wsV RX8 118 RX8 yX8_isStraight wsX8_isStraight) := goodIn_app (goodIn_of _ (by decide +kernel)) ggX8_kindOf_X8_isStraight
theorem dX8_kindOf_0 : decode cX8_kindOf 0 = .ok (.aload_n 0, 1) := by decide +kernel
theorem dX8_kindOf_1 : decode cX8_kindOf 1 = .ok (.iload_n 1, 1) := by decide +kernel
theorem dX8_kindOf_2 : decode cX8_kindOf 2 = .ok (.invokevirtual 111, 3) := by decide +kernel
theorem dX8_kindOf_5 : decode cX8_kindOf 5 = .ok (.istore_n 2, 1) := by decide +kernel
theorem dX8_kindOf_6 : decode cX8_kindOf 6 = .ok (.iload_n 2, 1) := by decide +kernel
theorem dX8_kindOf_7 : decode cX8_kindOf 7 = .ok (.ifCond .ne 7, 3) := by decide +kernel
theorem dX8_kindOf_10 : decode cX8_kindOf 10 = .ok (.iconst 0, 1) := by decide +kernel
theorem dX8_kindOf_11 : decode cX8_kindOf 11 = .ok (.goto 16, 3) := by decide +kernel
theorem dX8_kindOf_14 : decode cX8_kindOf 14 = .ok (.aload_n 0, 1) := by decide +kernel
theorem dX8_kindOf_15 : decode cX8_kindOf 15 = .ok (.iload_n 1, 1) := by decide +kernel
theorem dX8_kindOf_16 : decode cX8_kindOf 16 = .ok (.invokevirtual 118, 3) := by decide +kernel
theorem dX8_kindOf_19 : decode cX8_kindOf 19 = .ok (.ifCond .eq 7, 3) := by decide +kernel
theorem dX8_kindOf_22 : decode cX8_kindOf 22 = .ok (.iconst 1, 1) := by decide +kernel
theorem dX8_kindOf_23 : decode cX8_kindOf 23 = .ok (.goto 4, 3) := by decide +kernel
theorem dX8_kindOf_26 : decode cX8_kindOf 26 = .ok (.iload_n 2, 1) := by decide +kernel
theorem dX8_kindOf_27 : decode cX8_kindOf 27 = .ok (.ireturn, 1) := by decide +kernel
set_option maxRecDepth 20000 in
theorem ggX8_isLine_X8_in : GoodIn wsX8_isLine wsX8_in := goodIn_r _ [5] rfl (by decide +kernel)
set_option maxRecDepth 20000 in
theorem gX8_isLine_X8_in : GoodIn wsX8_isLine (va_wsS RX8 79 yX8_in wsX8_in) := goodIn_app (goodIn_of _ (by decide +kernel)) ggX8_isLine_X8_in
theorem dX8_isLine_0 : decode cX8_isLine 0 = .ok (.iload_n 0, 1) := by decide +kernel
theorem dX8_isLine_1 : decode cX8_isLine 1 = .ok (.i2l, 1) := by decide +kernel
theorem dX8_isLine_2 : decode cX8_isLine 2 = .ok (.lconst 0, 1) := by decide +kernel
theorem dX8_isLine_3 : decode cX8_isLine 3 = .ok (.ldc2_w 122, 3) := by decide +kernel
theorem dX8_isLine_6 : decode cX8_isLine 6 = .ok (.invokestatic 79, 3) := by decide +kernel
theorem dX8_isLine_9 : decode cX8_isLine 9 = .ok (.ireturn, 1) := by decide +kernel
set_option maxRecDepth 20000 in
theorem ggX8_against_X8_isLine : GoodIn wsX8_against wsX8_isLine := goodIn_r _ [5, 6, 7, 8, 4, 9] rfl (by decide +kernel)
set_option maxRecDepth 20000 in
theorem gX8_against_X8_isLine : GoodIn wsX8_against (va_wsS RX8 124 yX8_isLine wsX8_isLine) := goodIn_app (goodIn_of _ (by decide +kernel)) ggX8_against_X8_isLine
theorem dX8_against_0 : decode cX8_against 0 = .ok (.iload_n 1, 1) := by decide +kernel
theorem dX8_against_1 : decode cX8_against 1 = .ok (.invokestatic 124, 3) := by decide +kernel
theorem dX8_against_4 : decode cX8_against 4 = .ok (.ifCond .ne 7, 3) := by decide +kernel
theorem dX8_against_7 : decode cX8_against 7 = .ok (.iconst (-1), 1) := by decide +kernel
theorem dX8_against_8 : decode cX8_against 8 = .ok (.goto 18, 3) := by decide +kernel
theorem dX8_against_11 : decode cX8_against 11 = .ok (.aload_n 0, 1) := by decide +kernel
theorem dX8_against_12 : decode cX8_against 12 = .ok (.getfield 7, 3) := by decide +kernel
theorem dX8_against_15 : decode cX8_against 15 = .ok (.iload_n 1, 1) := by decide +kernel
theorem dX8_against_16 : decode cX8_against 16 = .ok (.baload, 1) := by decide +kernel
theorem dX8_against_17 : decode cX8_against 17 = .ok (.ifCond .eq 7, 3) := by decide +kernel
theorem dX8_against_20 : decode cX8_against 20 = .ok (.iconst 0, 1) := by decide +kernel
theorem dX8_against_21 : decode cX8_against 21 = .ok (.goto 5, 3) := by decide +kernel
theorem dX8_against_24 : decode cX8_against 24 = .ok (.bipush (-2), 2) := by decide +kernel
theorem dX8_against_26 : decode cX8_against 26 = .ok (.ireturn, 1) := by decide +kernel
set_option maxRecDepth 20000 in
theorem ggX8_type_X8_in : GoodIn wsX8_type wsX8_in := goodIn_r _ [10] rfl (by decide +kernel)
set_option maxRecDepth 20000 in
theorem gX8_type_X8_in : GoodIn wsX8_type (va_wsS RX8 79 yX8_in wsX8_in) := goodIn_app (goodIn_of _ (by decide +kernel)) ggX8_type_X8_in
theorem dX8_type_0 : decode cX8_type 0 = .ok (.iload_n 3, 1) := by decide +kernel
theorem dX8_type_1 : decode cX8_type 1 = .ok (.i2l, 1) := by decide +kernel
theorem dX8_type_2 : decode cX8_type 2 = .ok (.lconst 1, 1) := by decide +kernel
theorem dX8_type_3 : decode cX8_type 3 = .ok (.ldc2_w 127, 3) := by decide +kernel
theorem dX8_type_6 : decode cX8_type 6 = .ok (.invokestatic 79, 3) := by decide +kernel
theorem dX8_type_9 : decode cX8_type 9 = .ok (.ifCond .ne 5, 3) := by decide +kernel
theorem dX8_type_12 : decode cX8_type 12 = .ok (.iconst (-1), 1) := by decide +kernel
theorem dX8_type_13 : decode cX8_type 13 = .ok (.ireturn, 1) := by decide +kernel
theorem dX8_type_14 : decode cX8_type 14 = .ok (.iload_n 3, 1) := by decide +kernel
theorem dX8_type_15 : decode cX8_type 15 = .ok (.iconst 1, 1) := by decide +kernel
theorem dX8_type_16 : decode cX8_type 16 = .ok (.isub, 1) := by decide +kernel
theorem dX8_type_17 : decode cX8_type 17 = .ok (.istore 4, 2) := by decide +kernel
theorem dX8_type_19 : decode cX8_type 19 = .ok (.iload 4, 2) := by decide +kernel
theorem dX8_type_21 : decode cX8_type 21 = .ok (.ifCond .lt 34, 3) := by decide +kernel
theorem dX8_type_24 : decode cX8_type 24 = .ok (.lload_n 1, 1) := by decide +kernel
theorem dX8_type_25 : decode cX8_type 25 = .ok (.bipush 8, 2) := by decide +kernel
theorem dX8_type_27 : decode cX8_type 27 = .ok (.iload 4, 2) := by decide +kernel
theorem dX8_type_29 : decode cX8_type 29 = .ok (.imul, 1) := by decide +kernel
theorem dX8_type_30 : decode cX8_type 30 = .ok (.lshr, 1) := by decide +kernel
theorem dX8_type_31 : decode cX8_type 31 = .ok (.ldc2_w 129, 3) := by decide +kernel
theorem dX8_type_34 : decode cX8_type 34 = .ok (.land, 1) := by decide +kernel
theorem dX8_type_35 : decode cX8_type 35 = .ok (.ldc2_w 131, 3) := by decide +kernel
theorem dX8_type_38 : decode cX8_type 38 = .ok (.ldc2_w 133, 3) := by decide +kernel
theorem dX8_type_41 : decode cX8_type 41 = .ok (.invokestatic 79, 3) := by decide +kernel
theorem dX8_type_44 : decode cX8_type 44 = .ok (.ifCond .ne 5, 3) := by decide +kernel
theorem dX8_type_47 : decode cX8_type 47 = .ok (.iconst (-1), 1) := by decide +kernel
theorem dX8_type_48 : decode cX8_type 48 = .ok (.ireturn, 1) := by decide +kernel
theorem dX8_type_49 : decode cX8_type 49 = .ok (.iinc 4 (-1), 3) := by decide +kernel
theorem dX8_type_52 : decode cX8_type 52 = .ok (.goto (-33), 3) := by decide +kernel
theorem dX8_type_55 : decode cX8_type 55 = .ok (.aload_n 0, 1) := by decide +kernel
theorem dX8_type_56 : decode cX8_type 56 = .ok (.getfield 135, 3) := by decide +kernel
theorem dX8_type_59 : decode cX8_type 59 = .ok (.iload_n 3, 1) := by decide +kernel
theorem dX8_type_60 : decode cX8_type 60 = .ok (.iadd, 1) := by decide +kernel
theorem dX8_type_61 : decode cX8_type 61 = .ok (.bipush 90, 2) := by decide +kernel
theorem dX8_type_63 : decode cX8_type 63 = .ok (.if_icmp .le 6, 3) := by decide +kernel
theorem dX8_type_66 : decode cX8_type 66 = .ok (.bipush (-3), 2) := by decide +kernel
theorem dX8_type_68 : decode cX8_type 68 = .ok (.ireturn, 1) := by decide +kernel
theorem dX8_type_69 : decode cX8_type 69 = .ok (.iload_n 3, 1) := by decide +kernel
theorem dX8_type_70 : decode cX8_type 70 = .ok (.iconst 1, 1) := by decide +kernel
theorem dX8_type_71 : decode cX8_type 71 = .ok (.isub, 1) := by decide +kernel
theorem dX8_type_72 : decode cX8_type 72 = .ok (.istore 4, 2) := by decide +kernel
theorem dX8_type_74 : decode cX8_type 74 = .ok (.iload 4, 2) := by decide +kernel
theorem dX8_type_76 : decode cX8_type 76 = .ok (.ifCond .lt 40, 3) := by decide +kernel
theorem dX8_type_79 : decode cX8_type 79 = .ok (.aload_n 0, 1) := by decide +kernel
theorem dX8_type_80 : decode cX8_type 80 = .ok (.getfield 29, 3) := by decide +kernel
theorem dX8_type_83 : decode cX8_type 83 = .ok (.aload_n 0, 1) := by decide +kernel
theorem dX8_type_84 : decode cX8_type 84 = .ok (.getfield 135, 3) := by decide +kernel
theorem dX8_type_87 : decode cX8_type 87 = .ok (.lload_n 1, 1) := by decide +kernel
theorem dX8_type_88 : decode cX8_type 88 = .ok (.bipush 8, 2) := by decide +kernel
theorem dX8_type_90 : decode cX8_type 90 = .ok (.iload 4, 2) := by decide +kernel
theorem dX8_type_92 : decode cX8_type 92 = .ok (.imul, 1) := by decide +kernel
theorem dX8_type_93 : decode cX8_type 93 = .ok (.lshr, 1) := by decide +kernel
theorem dX8_type_94 : decode cX8_type 94 = .ok (.ldc2_w 129, 3) := by decide +kernel
theorem dX8_type_97 : decode cX8_type 97 = .ok (.land, 1) := by decide +kernel
theorem dX8_type_98 : decode cX8_type 98 = .ok (.l2i, 1) := by decide +kernel
theorem dX8_type_99 : decode cX8_type 99 = .ok (.iastore, 1) := by decide +kernel
theorem dX8_type_100 : decode cX8_type 100 = .ok (.aload_n 0, 1) := by decide +kernel
theorem dX8_type_101 : decode cX8_type 101 = .ok (.dup, 1) := by decide +kernel
theorem dX8_type_102 : decode cX8_type 102 = .ok (.getfield 135, 3) := by decide +kernel
theorem dX8_type_105 : decode cX8_type 105 = .ok (.iconst 1, 1) := by decide +kernel
theorem dX8_type_106 : decode cX8_type 106 = .ok (.iadd, 1) := by decide +kernel
theorem dX8_type_107 : decode cX8_type 107 = .ok (.putfield 135, 3) := by decide +kernel
theorem dX8_type_110 : decode cX8_type 110 = .ok (.iinc 4 (-1), 3) := by decide +kernel
theorem dX8_type_113 : decode cX8_type 113 = .ok (.goto (-39), 3) := by decide +kernel
theorem dX8_type_116 : decode cX8_type 116 = .ok (.aload_n 0, 1) := by decide +kernel
theorem dX8_type_117 : decode cX8_type 117 = .ok (.getfield 135, 3) := by decide +kernel
theorem dX8_type_120 : decode cX8_type 120 = .ok (.ireturn, 1) := by decide +kernel
theorem dX8_next_0 : decode cX8_next 0 = .ok (.aload_n 0, 1) := by decide +kernel
theorem dX8_next_1 : decode cX8_next 1 = .ok (.getfield 139, 3) := by decide +kernel
theorem dX8_next_4 : decode cX8_next 4 = .ok (.aload_n 0, 1) := by decide +kernel
theorem dX8_next_5 : decode cX8_next 5 = .ok (.getfield 135, 3) := by decide +kernel
theorem dX8_next_8 : decode cX8_next 8 = .ok (.if_icmp .ge 30, 3) := by decide +kernel
theorem dX8_next_11 : decode cX8_next 11 = .ok (.aload_n 0, 1) := by decide +kernel
theorem dX8_next_12 : decode cX8_next 12 = .ok (.getfield 29, 3) := by decide +kernel
theorem dX8_next_15 : decode cX8_next 15 = .ok (.aload_n 0, 1) := by decide +kernel
theorem dX8_next_16 : decode cX8_next 16 = .ok (.getfield 139, 3) := by decide +kernel
theorem dX8_next_19 : decode cX8_next 19 = .ok (.iaload, 1) := by decide +kernel
theorem dX8_next_20 : decode cX8_next 20 = .ok (.bipush 32, 2) := by decide +kernel
theorem dX8_next_22 : decode cX8_next 22 = .ok (.if_icmp .ne 16, 3) := by decide +kernel
theorem dX8_next_25 : decode cX8_next 25 = .ok (.aload_n 0, 1) := by decide +kernel
theorem dX8_next_26 : decode cX8_next 26 = .ok (.dup, 1) := by decide +kernel
theorem dX8_next_27 : decode cX8_next 27 = .ok (.getfield 139, 3) := by decide +kernel
theorem dX8_next_30 : decode cX8_next 30 = .ok (.iconst 1, 1) := by decide +kernel
theorem dX8_next_31 : decode cX8_next 31 = .ok (.iadd, 1) := by decide +kernel
theorem dX8_next_32 : decode cX8_next 32 = .ok (.putfield 139, 3) := by decide +kernel
theorem dX8_next_35 : decode cX8_next 35 = .ok (.goto (-35), 3) := by decide +kernel
theorem dX8_next_38 : decode cX8_next 38 = .ok (.aload_n 0, 1) := by decide +kernel
theorem dX8_next_39 : decode cX8_next 39 = .ok (.getfield 139, 3) := by decide +kernel
theorem dX8_next_42 : decode cX8_next 42 = .ok (.aload_n 0, 1) := by decide +kernel
theorem dX8_next_43 : decode cX8_next 43 = .ok (.getfield 135, 3) := by decide +kernel
theorem dX8_next_46 : decode cX8_next 46 = .ok (.if_icmp .ge 15, 3) := by decide +kernel
theorem dX8_next_49 : decode cX8_next 49 = .ok (.aload_n 0, 1) := by decide +kernel
theorem dX8_next_50 : decode cX8_next 50 = .ok (.getfield 29, 3) := by decide +kernel
theorem dX8_next_53 : decode cX8_next 53 = .ok (.aload_n 0, 1) := by decide +kernel
theorem dX8_next_54 : decode cX8_next 54 = .ok (.getfield 139, 3) := by decide +kernel
theorem dX8_next_57 : decode cX8_next 57 = .ok (.iaload, 1) := by decide +kernel
theorem dX8_next_58 : decode cX8_next 58 = .ok (.goto 4, 3) := by decide +kernel
theorem dX8_next_61 : decode cX8_next 61 = .ok (.iconst (-1), 1) := by decide +kernel
theorem dX8_next_62 : decode cX8_next 62 = .ok (.ireturn, 1) := by decide +kernel
set_option maxRecDepth 20000 in
theorem ggX8_readTerm_X8_next : GoodIn wsX8_readTerm wsX8_next := goodIn_r _ [11, 1, 4, 5, 15, 16, 17, 18, 19, 20, 21, 22, 23, 24, 25, 26, 27, 28, 29, 30, 31, 32, 33] rfl (by decide +kernel)
set_option maxRecDepth 20000 in
theorem gX8_readTerm_X8_next : GoodIn wsX8_readTerm (wsV RX8 142 RX8 yX8_next wsX8_next) := goodIn_app (goodIn_of _ (by decide +kernel)) ggX8_readTerm_X8_next
set_option maxRecDepth 20000 in
theorem ggX8_readTerm_X8_in : GoodIn wsX8_readTerm wsX8_in := goodIn_r _ [14] rfl (by decide +kernel)
set_option maxRecDepth 20000 in
theorem gX8_readTerm_X8_in : GoodIn wsX8_readTerm (va_wsS RX8 79 yX8_in wsX8_in) := goodIn_app (goodIn_of _ (by decide +kernel)) ggX8_readTerm_X8_in
theorem dX8_readTerm_0 : decode cX8_readTerm 0 = .ok (.aload_n 0, 1) := by decide +kernel
theorem dX8_readTerm_1 : decode cX8_readTerm 1 = .ok (.invokevirtual 142, 3) := by decide +kernel
theorem dX8_readTerm_4 : decode cX8_readTerm 4 = .ok (.istore_n 3, 1) := by decide +kernel
theorem dX8_readTerm_5 : decode cX8_readTerm 5 = .ok (.aload_n 0, 1) := by decide +kernel
theorem dX8_readTerm_6 : decode cX8_readTerm 6 = .ok (.getfield 139, 3) := by decide +kernel
theorem dX8_readTerm_9 : decode cX8_readTerm 9 = .ok (.istore 4, 2) := by decide +kernel
theorem dX8_readTerm_11 : decode cX8_readTerm 11 = .ok (.iconst 0, 1) := by decide +kernel
theorem dX8_readTerm_12 : decode cX8_readTerm 12 = .ok (.istore 5, 2) := by decide +kernel
theorem dX8_readTerm_14 : decode cX8_readTerm 14 = .ok (.iload_n 3, 1) := by decide +kernel
theorem dX8_readTerm_15 : decode cX8_readTerm 15 = .ok (.i2l, 1) := by decide +kernel
theorem dX8_readTerm_16 : decode cX8_readTerm 16 = .ok (.ldc2_w 146, 3) := by decide +kernel
theorem dX8_readTerm_19 : decode cX8_readTerm 19 = .ok (.ldc2_w 148, 3) := by decide +kernel
theorem dX8_readTerm_22 : decode cX8_readTerm 22 = .ok (.invokestatic 79, 3) := by decide +kernel
theorem dX8_readTerm_25 : decode cX8_readTerm 25 = .ok (.istore 6, 2) := by decide +kernel
theorem dX8_readTerm_27 : decode cX8_readTerm 27 = .ok (.aload_n 0, 1) := by decide +kernel
theorem dX8_readTerm_28 : decode cX8_readTerm 28 = .ok (.getfield 139, 3) := by decide +kernel
theorem dX8_readTerm_31 : decode cX8_readTerm 31 = .ok (.aload_n 0, 1) := by decide +kernel
theorem dX8_readTerm_32 : decode cX8_readTerm 32 = .ok (.getfield 135, 3) := by decide +kernel
theorem dX8_readTerm_35 : decode cX8_readTerm 35 = .ok (.if_icmp .ge 70, 3) := by decide +kernel
theorem dX8_readTerm_38 : decode cX8_readTerm 38 = .ok (.aload_n 0, 1) := by decide +kernel
theorem dX8_readTerm_39 : decode cX8_readTerm 39 = .ok (.getfield 29, 3) := by decide +kernel
theorem dX8_readTerm_42 : decode cX8_readTerm 42 = .ok (.aload_n 0, 1) := by decide +kernel
theorem dX8_readTerm_43 : decode cX8_readTerm 43 = .ok (.getfield 139, 3) := by decide +kernel
theorem dX8_readTerm_46 : decode cX8_readTerm 46 = .ok (.iaload, 1) := by decide +kernel
theorem dX8_readTerm_47 : decode cX8_readTerm 47 = .ok (.i2l, 1) := by decide +kernel
theorem dX8_readTerm_48 : decode cX8_readTerm 48 = .ok (.ldc2_w 146, 3) := by decide +kernel
theorem dX8_readTerm_51 : decode cX8_readTerm 51 = .ok (.ldc2_w 148, 3) := by decide +kernel
theorem dX8_readTerm_54 : decode cX8_readTerm 54 = .ok (.invokestatic 79, 3) := by decide +kernel
theorem dX8_readTerm_57 : decode cX8_readTerm 57 = .ok (.ifCond .eq 48, 3) := by decide +kernel
theorem dX8_readTerm_60 : decode cX8_readTerm 60 = .ok (.iload 5, 2) := by decide +kernel
theorem dX8_readTerm_62 : decode cX8_readTerm 62 = .ok (.bipush 99, 2) := by decide +kernel
theorem dX8_readTerm_64 : decode cX8_readTerm 64 = .ok (.if_icmp .le 8, 3) := by decide +kernel
theorem dX8_readTerm_67 : decode cX8_readTerm 67 = .ok (.iload 5, 2) := by decide +kernel
theorem dX8_readTerm_69 : decode cX8_readTerm 69 = .ok (.goto 21, 3) := by decide +kernel
theorem dX8_readTerm_72 : decode cX8_readTerm 72 = .ok (.bipush 10, 2) := by decide +kernel
theorem dX8_readTerm_74 : decode cX8_readTerm 74 = .ok (.iload 5, 2) := by decide +kernel
theorem dX8_readTerm_76 : decode cX8_readTerm 76 = .ok (.imul, 1) := by decide +kernel
theorem dX8_readTerm_77 : decode cX8_readTerm 77 = .ok (.aload_n 0, 1) := by decide +kernel
theorem dX8_readTerm_78 : decode cX8_readTerm 78 = .ok (.getfield 29, 3) := by decide +kernel
theorem dX8_readTerm_81 : decode cX8_readTerm 81 = .ok (.aload_n 0, 1) := by decide +kernel
theorem dX8_readTerm_82 : decode cX8_readTerm 82 = .ok (.getfield 139, 3) := by decide +kernel
theorem dX8_readTerm_85 : decode cX8_readTerm 85 = .ok (.iaload, 1) := by decide +kernel
theorem dX8_readTerm_86 : decode cX8_readTerm 86 = .ok (.iadd, 1) := by decide +kernel
theorem dX8_readTerm_87 : decode cX8_readTerm 87 = .ok (.bipush 48, 2) := by decide +kernel
theorem dX8_readTerm_89 : decode cX8_readTerm 89 = .ok (.isub, 1) := by decide +kernel
theorem dX8_readTerm_90 : decode cX8_readTerm 90 = .ok (.istore 5, 2) := by decide +kernel
theorem dX8_readTerm_92 : decode cX8_readTerm 92 = .ok (.aload_n 0, 1) := by decide +kernel
theorem dX8_readTerm_93 : decode cX8_readTerm 93 = .ok (.dup, 1) := by decide +kernel
theorem dX8_readTerm_94 : decode cX8_readTerm 94 = .ok (.getfield 139, 3) := by decide +kernel
theorem dX8_readTerm_97 : decode cX8_readTerm 97 = .ok (.iconst 1, 1) := by decide +kernel
theorem dX8_readTerm_98 : decode cX8_readTerm 98 = .ok (.iadd, 1) := by decide +kernel
theorem dX8_readTerm_99 : decode cX8_readTerm 99 = .ok (.putfield 139, 3) := by decide +kernel
theorem dX8_readTerm_102 : decode cX8_readTerm 102 = .ok (.goto (-75), 3) := by decide +kernel
theorem dX8_readTerm_105 : decode cX8_readTerm 105 = .ok (.iload 5, 2) := by decide +kernel
theorem dX8_readTerm_107 : decode cX8_readTerm 107 = .ok (.bipush 99, 2) := by decide +kernel
theorem dX8_readTerm_109 : decode cX8_readTerm 109 = .ok (.if_icmp .le 11, 3) := by decide +kernel
theorem dX8_readTerm_112 : decode cX8_readTerm 112 = .ok (.aload_n 0, 1) := by decide +kernel
theorem dX8_readTerm_113 : decode cX8_readTerm 113 = .ok (.iload 4, 2) := by decide +kernel
theorem dX8_readTerm_115 : decode cX8_readTerm 115 = .ok (.putfield 139, 3) := by decide +kernel
theorem dX8_readTerm_118 : decode cX8_readTerm 118 = .ok (.iconst 0, 1) := by decide +kernel
theorem dX8_readTerm_119 : decode cX8_readTerm 119 = .ok (.ireturn, 1) := by decide +kernel
theorem dX8_readTerm_120 : decode cX8_readTerm 120 = .ok (.iconst 0, 1) := by decide +kernel
theorem dX8_readTerm_121 : decode cX8_readTerm 121 = .ok (.istore 7, 2) := by decide +kernel
theorem dX8_readTerm_123 : decode cX8_readTerm 123 = .ok (.aload_n 0, 1) := by decide +kernel
theorem dX8_readTerm_124 : decode cX8_readTerm 124 = .ok (.invokevirtual 142, 3) := by decide +kernel
theorem dX8_readTerm_127 : decode cX8_readTerm 127 = .ok (.bipush 116, 2) := by decide +kernel
theorem dX8_readTerm_129 : decode cX8_readTerm 129 = .ok (.if_icmp .ne 52, 3) := by decide +kernel
theorem dX8_readTerm_132 : decode cX8_readTerm 132 = .ok (.aload_n 0, 1) := by decide +kernel
theorem dX8_readTerm_133 : decode cX8_readTerm 133 = .ok (.dup, 1) := by decide +kernel
theorem dX8_readTerm_134 : decode cX8_readTerm 134 = .ok (.getfield 139, 3) := by decide +kernel
theorem dX8_readTerm_137 : decode cX8_readTerm 137 = .ok (.iconst 1, 1) := by decide +kernel
theorem dX8_readTerm_138 : decode cX8_readTerm 138 = .ok (.iadd, 1) := by decide +kernel
theorem dX8_readTerm_139 : decode cX8_readTerm 139 = .ok (.putfield 139, 3) := by decide +kernel
theorem dX8_readTerm_142 : decode cX8_readTerm 142 = .ok (.iconst 1, 1) := by decide +kernel
theorem dX8_readTerm_143 : decode cX8_readTerm 143 = .ok (.istore 7, 2) := by decide +kernel
theorem dX8_readTerm_145 : decode cX8_readTerm 145 = .ok (.aload_n 0, 1) := by decide +kernel
theorem dX8_readTerm_146 : decode cX8_readTerm 146 = .ok (.invokevirtual 142, 3) := by decide +kernel
theorem dX8_readTerm_149 : decode cX8_readTerm 149 = .ok (.istore_n 3, 1) := by decide +kernel
theorem dX8_readTerm_150 : decode cX8_readTerm 150 = .ok (.iload_n 3, 1) := by decide +kernel
theorem dX8_readTerm_151 : decode cX8_readTerm 151 = .ok (.bipush 50, 2) := by decide +kernel
theorem dX8_readTerm_153 : decode cX8_readTerm 153 = .ok (.if_icmp .eq 9, 3) := by decide +kernel
theorem dX8_readTerm_156 : decode cX8_readTerm 156 = .ok (.iload_n 3, 1) := by decide +kernel
theorem dX8_readTerm_157 : decode cX8_readTerm 157 = .ok (.bipush 51, 2) := by decide +kernel
theorem dX8_readTerm_159 : decode cX8_readTerm 159 = .ok (.if_icmp .ne 29, 3) := by decide +kernel
theorem dX8_readTerm_162 : decode cX8_readTerm 162 = .ok (.iload_n 3, 1) := by decide +kernel
theorem dX8_readTerm_163 : decode cX8_readTerm 163 = .ok (.bipush 48, 2) := by decide +kernel
theorem dX8_readTerm_165 : decode cX8_readTerm 165 = .ok (.isub, 1) := by decide +kernel
theorem dX8_readTerm_166 : decode cX8_readTerm 166 = .ok (.istore 7, 2) := by decide +kernel
theorem dX8_readTerm_168 : decode cX8_readTerm 168 = .ok (.aload_n 0, 1) := by decide +kernel
theorem dX8_readTerm_169 : decode cX8_readTerm 169 = .ok (.dup, 1) := by decide +kernel
theorem dX8_readTerm_170 : decode cX8_readTerm 170 = .ok (.getfield 139, 3) := by decide +kernel
theorem dX8_readTerm_173 : decode cX8_readTerm 173 = .ok (.iconst 1, 1) := by decide +kernel
theorem dX8_readTerm_174 : decode cX8_readTerm 174 = .ok (.iadd, 1) := by decide +kernel
theorem dX8_readTerm_175 : decode cX8_readTerm 175 = .ok (.putfield 139, 3) := by decide +kernel
theorem dX8_readTerm_178 : decode cX8_readTerm 178 = .ok (.goto 10, 3) := by decide +kernel
theorem dX8_readTerm_181 : decode cX8_readTerm 181 = .ok (.iload 6, 2) := by decide +kernel
theorem dX8_readTerm_183 : decode cX8_readTerm 183 = .ok (.ifCond .ne 5, 3) := by decide +kernel
theorem dX8_readTerm_186 : decode cX8_readTerm 186 = .ok (.iconst 0, 1) := by decide +kernel
theorem dX8_readTerm_187 : decode cX8_readTerm 187 = .ok (.ireturn, 1) := by decide +kernel
theorem dX8_readTerm_188 : decode cX8_readTerm 188 = .ok (.aload_n 0, 1) := by decide +kernel
theorem dX8_readTerm_189 : decode cX8_readTerm 189 = .ok (.getfield 17, 3) := by decide +kernel
theorem dX8_readTerm_192 : decode cX8_readTerm 192 = .ok (.iconst 4, 1) := by decide +kernel
theorem dX8_readTerm_193 : decode cX8_readTerm 193 = .ok (.iload_n 1, 1) := by decide +kernel
theorem dX8_readTerm_194 : decode cX8_readTerm 194 = .ok (.imul, 1) := by decide +kernel
theorem dX8_readTerm_195 : decode cX8_readTerm 195 = .ok (.iload 7, 2) := by decide +kernel
theorem dX8_readTerm_197 : decode cX8_readTerm 197 = .ok (.iadd, 1) := by decide +kernel
theorem dX8_readTerm_198 : decode cX8_readTerm 198 = .ok (.dup2, 1) := by decide +kernel
