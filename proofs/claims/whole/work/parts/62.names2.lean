theorem dX8_readTerm_199 : decode cX8_readTerm 199 = .ok (.laload, 1) := by decide +kernel
theorem dX8_readTerm_200 : decode cX8_readTerm 200 = .ok (.iload_n 2, 1) := by decide +kernel
theorem dX8_readTerm_201 : decode cX8_readTerm 201 = .ok (.iload 6, 2) := by decide +kernel
theorem dX8_readTerm_203 : decode cX8_readTerm 203 = .ok (.ifCond .eq 8, 3) := by decide +kernel
theorem dX8_readTerm_206 : decode cX8_readTerm 206 = .ok (.iload 5, 2) := by decide +kernel
theorem dX8_readTerm_208 : decode cX8_readTerm 208 = .ok (.goto 4, 3) := by decide +kernel
theorem dX8_readTerm_211 : decode cX8_readTerm 211 = .ok (.iconst 1, 1) := by decide +kernel
theorem dX8_readTerm_212 : decode cX8_readTerm 212 = .ok (.imul, 1) := by decide +kernel
theorem dX8_readTerm_213 : decode cX8_readTerm 213 = .ok (.i2l, 1) := by decide +kernel
theorem dX8_readTerm_214 : decode cX8_readTerm 214 = .ok (.ladd, 1) := by decide +kernel
theorem dX8_readTerm_215 : decode cX8_readTerm 215 = .ok (.lastore, 1) := by decide +kernel
theorem dX8_readTerm_216 : decode cX8_readTerm 216 = .ok (.iconst 1, 1) := by decide +kernel
theorem dX8_readTerm_217 : decode cX8_readTerm 217 = .ok (.ireturn, 1) := by decide +kernel
set_option maxRecDepth 20000 in
theorem ggX8_readPolynomial_X8_next : GoodIn wsX8_readPolynomial wsX8_next := goodIn_r _ [6, 1, 7, 8, 19, 20, 21, 22, 23, 24, 25, 26, 27, 28, 29, 30, 31, 32, 33, 34, 35, 36, 37] rfl (by decide +kernel)
set_option maxRecDepth 20000 in
theorem gX8_readPolynomial_X8_next : GoodIn wsX8_readPolynomial (wsV RX8 142 RX8 yX8_next wsX8_next) := goodIn_app (goodIn_of _ (by decide +kernel)) ggX8_readPolynomial_X8_next
set_option maxRecDepth 20000 in
theorem ggX8_readPolynomial_X8_readTerm : GoodIn wsX8_readPolynomial wsX8_readTerm := goodIn_r _ [12, 1, 13, 14, 7, 8, 15, 2, 3, 4, 5, 6, 16, 17, 18, 19, 20, 21, 22, 23, 24, 25, 26, 27, 28, 29, 30, 31, 32, 33, 34, 35, 36, 37] rfl (by decide +kernel)
set_option maxRecDepth 20000 in
theorem gX8_readPolynomial_X8_readTerm : GoodIn wsX8_readPolynomial (wsV RX8 150 RX8 yX8_readTerm wsX8_readTerm) := goodIn_app (goodIn_of _ (by decide +kernel)) ggX8_readPolynomial_X8_readTerm
theorem dX8_readPolynomial_0 : decode cX8_readPolynomial 0 = .ok (.aload_n 0, 1) := by decide +kernel
theorem dX8_readPolynomial_1 : decode cX8_readPolynomial 1 = .ok (.invokevirtual 142, 3) := by decide +kernel
theorem dX8_readPolynomial_4 : decode cX8_readPolynomial 4 = .ok (.istore_n 2, 1) := by decide +kernel
theorem dX8_readPolynomial_5 : decode cX8_readPolynomial 5 = .ok (.aload_n 0, 1) := by decide +kernel
theorem dX8_readPolynomial_6 : decode cX8_readPolynomial 6 = .ok (.dup, 1) := by decide +kernel
theorem dX8_readPolynomial_7 : decode cX8_readPolynomial 7 = .ok (.getfield 139, 3) := by decide +kernel
theorem dX8_readPolynomial_10 : decode cX8_readPolynomial 10 = .ok (.iload_n 2, 1) := by decide +kernel
theorem dX8_readPolynomial_11 : decode cX8_readPolynomial 11 = .ok (.bipush 45, 2) := by decide +kernel
theorem dX8_readPolynomial_13 : decode cX8_readPolynomial 13 = .ok (.if_icmp .ne 7, 3) := by decide +kernel
theorem dX8_readPolynomial_16 : decode cX8_readPolynomial 16 = .ok (.iconst 1, 1) := by decide +kernel
theorem dX8_readPolynomial_17 : decode cX8_readPolynomial 17 = .ok (.goto 4, 3) := by decide +kernel
theorem dX8_readPolynomial_20 : decode cX8_readPolynomial 20 = .ok (.iconst 0, 1) := by decide +kernel
theorem dX8_readPolynomial_21 : decode cX8_readPolynomial 21 = .ok (.iadd, 1) := by decide +kernel
theorem dX8_readPolynomial_22 : decode cX8_readPolynomial 22 = .ok (.putfield 139, 3) := by decide +kernel
theorem dX8_readPolynomial_25 : decode cX8_readPolynomial 25 = .ok (.aload_n 0, 1) := by decide +kernel
theorem dX8_readPolynomial_26 : decode cX8_readPolynomial 26 = .ok (.iload_n 1, 1) := by decide +kernel
theorem dX8_readPolynomial_27 : decode cX8_readPolynomial 27 = .ok (.iload_n 2, 1) := by decide +kernel
theorem dX8_readPolynomial_28 : decode cX8_readPolynomial 28 = .ok (.bipush 45, 2) := by decide +kernel
theorem dX8_readPolynomial_30 : decode cX8_readPolynomial 30 = .ok (.if_icmp .ne 7, 3) := by decide +kernel
theorem dX8_readPolynomial_33 : decode cX8_readPolynomial 33 = .ok (.iconst (-1), 1) := by decide +kernel
theorem dX8_readPolynomial_34 : decode cX8_readPolynomial 34 = .ok (.goto 4, 3) := by decide +kernel
theorem dX8_readPolynomial_37 : decode cX8_readPolynomial 37 = .ok (.iconst 1, 1) := by decide +kernel
theorem dX8_readPolynomial_38 : decode cX8_readPolynomial 38 = .ok (.invokevirtual 150, 3) := by decide +kernel
theorem dX8_readPolynomial_41 : decode cX8_readPolynomial 41 = .ok (.ifCond .ne 5, 3) := by decide +kernel
theorem dX8_readPolynomial_44 : decode cX8_readPolynomial 44 = .ok (.iconst 0, 1) := by decide +kernel
theorem dX8_readPolynomial_45 : decode cX8_readPolynomial 45 = .ok (.ireturn, 1) := by decide +kernel
theorem dX8_readPolynomial_46 : decode cX8_readPolynomial 46 = .ok (.aload_n 0, 1) := by decide +kernel
theorem dX8_readPolynomial_47 : decode cX8_readPolynomial 47 = .ok (.invokevirtual 142, 3) := by decide +kernel
theorem dX8_readPolynomial_50 : decode cX8_readPolynomial 50 = .ok (.istore_n 2, 1) := by decide +kernel
theorem dX8_readPolynomial_51 : decode cX8_readPolynomial 51 = .ok (.iload_n 2, 1) := by decide +kernel
theorem dX8_readPolynomial_52 : decode cX8_readPolynomial 52 = .ok (.bipush 43, 2) := by decide +kernel
theorem dX8_readPolynomial_54 : decode cX8_readPolynomial 54 = .ok (.if_icmp .eq 9, 3) := by decide +kernel
theorem dX8_readPolynomial_57 : decode cX8_readPolynomial 57 = .ok (.iload_n 2, 1) := by decide +kernel
theorem dX8_readPolynomial_58 : decode cX8_readPolynomial 58 = .ok (.bipush 45, 2) := by decide +kernel
theorem dX8_readPolynomial_60 : decode cX8_readPolynomial 60 = .ok (.if_icmp .ne 42, 3) := by decide +kernel
theorem dX8_readPolynomial_63 : decode cX8_readPolynomial 63 = .ok (.aload_n 0, 1) := by decide +kernel
theorem dX8_readPolynomial_64 : decode cX8_readPolynomial 64 = .ok (.dup, 1) := by decide +kernel
theorem dX8_readPolynomial_65 : decode cX8_readPolynomial 65 = .ok (.getfield 139, 3) := by decide +kernel
theorem dX8_readPolynomial_68 : decode cX8_readPolynomial 68 = .ok (.iconst 1, 1) := by decide +kernel
theorem dX8_readPolynomial_69 : decode cX8_readPolynomial 69 = .ok (.iadd, 1) := by decide +kernel
theorem dX8_readPolynomial_70 : decode cX8_readPolynomial 70 = .ok (.putfield 139, 3) := by decide +kernel
theorem dX8_readPolynomial_73 : decode cX8_readPolynomial 73 = .ok (.aload_n 0, 1) := by decide +kernel
theorem dX8_readPolynomial_74 : decode cX8_readPolynomial 74 = .ok (.iload_n 1, 1) := by decide +kernel
theorem dX8_readPolynomial_75 : decode cX8_readPolynomial 75 = .ok (.iload_n 2, 1) := by decide +kernel
theorem dX8_readPolynomial_76 : decode cX8_readPolynomial 76 = .ok (.bipush 45, 2) := by decide +kernel
theorem dX8_readPolynomial_78 : decode cX8_readPolynomial 78 = .ok (.if_icmp .ne 7, 3) := by decide +kernel
theorem dX8_readPolynomial_81 : decode cX8_readPolynomial 81 = .ok (.iconst (-1), 1) := by decide +kernel
theorem dX8_readPolynomial_82 : decode cX8_readPolynomial 82 = .ok (.goto 4, 3) := by decide +kernel
theorem dX8_readPolynomial_85 : decode cX8_readPolynomial 85 = .ok (.iconst 1, 1) := by decide +kernel
theorem dX8_readPolynomial_86 : decode cX8_readPolynomial 86 = .ok (.invokevirtual 150, 3) := by decide +kernel
theorem dX8_readPolynomial_89 : decode cX8_readPolynomial 89 = .ok (.ifCond .ne 5, 3) := by decide +kernel
theorem dX8_readPolynomial_92 : decode cX8_readPolynomial 92 = .ok (.iconst 0, 1) := by decide +kernel
theorem dX8_readPolynomial_93 : decode cX8_readPolynomial 93 = .ok (.ireturn, 1) := by decide +kernel
theorem dX8_readPolynomial_94 : decode cX8_readPolynomial 94 = .ok (.aload_n 0, 1) := by decide +kernel
theorem dX8_readPolynomial_95 : decode cX8_readPolynomial 95 = .ok (.invokevirtual 142, 3) := by decide +kernel
theorem dX8_readPolynomial_98 : decode cX8_readPolynomial 98 = .ok (.istore_n 2, 1) := by decide +kernel
theorem dX8_readPolynomial_99 : decode cX8_readPolynomial 99 = .ok (.goto (-48), 3) := by decide +kernel
theorem dX8_readPolynomial_102 : decode cX8_readPolynomial 102 = .ok (.iconst 1, 1) := by decide +kernel
theorem dX8_readPolynomial_103 : decode cX8_readPolynomial 103 = .ok (.ireturn, 1) := by decide +kernel
set_option maxRecDepth 20000 in
theorem ggX8_readLine_X8_readPolynomial : GoodIn wsX8_readLine wsX8_readPolynomial := goodIn_r _ [7, 1, 8, 9, 10, 6, 11, 12, 13, 14, 15, 16, 17, 18, 19, 2, 20, 21, 22, 23, 24, 25, 26, 27, 28, 29, 30, 31, 32, 33, 34, 35, 36, 37, 38, 39, 40, 41] rfl (by decide +kernel)
set_option maxRecDepth 20000 in
theorem gX8_readLine_X8_readPolynomial : GoodIn wsX8_readLine (wsV RX8 154 RX8 yX8_readPolynomial wsX8_readPolynomial) := goodIn_app (goodIn_of _ (by decide +kernel)) ggX8_readLine_X8_readPolynomial
set_option maxRecDepth 20000 in
theorem ggX8_readLine_X8_next : GoodIn wsX8_readLine wsX8_next := goodIn_r _ [11, 1, 12, 13, 23, 24, 25, 26, 27, 28, 29, 30, 31, 32, 33, 34, 35, 36, 37, 38, 39, 40, 41] rfl (by decide +kernel)
set_option maxRecDepth 20000 in
theorem gX8_readLine_X8_next : GoodIn wsX8_readLine (wsV RX8 142 RX8 yX8_next wsX8_next) := goodIn_app (goodIn_of _ (by decide +kernel)) ggX8_readLine_X8_next
theorem dX8_readLine_0 : decode cX8_readLine 0 = .ok (.aload_n 0, 1) := by decide +kernel
theorem dX8_readLine_1 : decode cX8_readLine 1 = .ok (.iconst 0, 1) := by decide +kernel
theorem dX8_readLine_2 : decode cX8_readLine 2 = .ok (.putfield 139, 3) := by decide +kernel
theorem dX8_readLine_5 : decode cX8_readLine 5 = .ok (.iconst 0, 1) := by decide +kernel
theorem dX8_readLine_6 : decode cX8_readLine 6 = .ok (.istore_n 1, 1) := by decide +kernel
theorem dX8_readLine_7 : decode cX8_readLine 7 = .ok (.iload_n 1, 1) := by decide +kernel
theorem dX8_readLine_8 : decode cX8_readLine 8 = .ok (.bipush 12, 2) := by decide +kernel
theorem dX8_readLine_10 : decode cX8_readLine 10 = .ok (.if_icmp .ge 16, 3) := by decide +kernel
theorem dX8_readLine_13 : decode cX8_readLine 13 = .ok (.aload_n 0, 1) := by decide +kernel
theorem dX8_readLine_14 : decode cX8_readLine 14 = .ok (.getfield 17, 3) := by decide +kernel
theorem dX8_readLine_17 : decode cX8_readLine 17 = .ok (.iload_n 1, 1) := by decide +kernel
theorem dX8_readLine_18 : decode cX8_readLine 18 = .ok (.lconst 0, 1) := by decide +kernel
theorem dX8_readLine_19 : decode cX8_readLine 19 = .ok (.lastore, 1) := by decide +kernel
theorem dX8_readLine_20 : decode cX8_readLine 20 = .ok (.iinc 1 1, 3) := by decide +kernel
theorem dX8_readLine_23 : decode cX8_readLine 23 = .ok (.goto (-16), 3) := by decide +kernel
theorem dX8_readLine_26 : decode cX8_readLine 26 = .ok (.iconst 0, 1) := by decide +kernel
theorem dX8_readLine_27 : decode cX8_readLine 27 = .ok (.istore_n 1, 1) := by decide +kernel
theorem dX8_readLine_28 : decode cX8_readLine 28 = .ok (.iload_n 1, 1) := by decide +kernel
theorem dX8_readLine_29 : decode cX8_readLine 29 = .ok (.iconst 3, 1) := by decide +kernel
theorem dX8_readLine_30 : decode cX8_readLine 30 = .ok (.if_icmp .ge 56, 3) := by decide +kernel
theorem dX8_readLine_33 : decode cX8_readLine 33 = .ok (.aload_n 0, 1) := by decide +kernel
theorem dX8_readLine_34 : decode cX8_readLine 34 = .ok (.iload_n 1, 1) := by decide +kernel
theorem dX8_readLine_35 : decode cX8_readLine 35 = .ok (.invokevirtual 154, 3) := by decide +kernel
theorem dX8_readLine_38 : decode cX8_readLine 38 = .ok (.ifCond .eq 21, 3) := by decide +kernel
theorem dX8_readLine_41 : decode cX8_readLine 41 = .ok (.aload_n 0, 1) := by decide +kernel
theorem dX8_readLine_42 : decode cX8_readLine 42 = .ok (.invokevirtual 142, 3) := by decide +kernel
theorem dX8_readLine_45 : decode cX8_readLine 45 = .ok (.iload_n 1, 1) := by decide +kernel
theorem dX8_readLine_46 : decode cX8_readLine 46 = .ok (.iconst 2, 1) := by decide +kernel
theorem dX8_readLine_47 : decode cX8_readLine 47 = .ok (.if_icmp .ge 8, 3) := by decide +kernel
theorem dX8_readLine_50 : decode cX8_readLine 50 = .ok (.bipush 59, 2) := by decide +kernel
theorem dX8_readLine_52 : decode cX8_readLine 52 = .ok (.goto 4, 3) := by decide +kernel
theorem dX8_readLine_55 : decode cX8_readLine 55 = .ok (.iconst (-1), 1) := by decide +kernel
theorem dX8_readLine_56 : decode cX8_readLine 56 = .ok (.if_icmp .eq 5, 3) := by decide +kernel
theorem dX8_readLine_59 : decode cX8_readLine 59 = .ok (.iconst 0, 1) := by decide +kernel
theorem dX8_readLine_60 : decode cX8_readLine 60 = .ok (.ireturn, 1) := by decide +kernel
theorem dX8_readLine_61 : decode cX8_readLine 61 = .ok (.aload_n 0, 1) := by decide +kernel
theorem dX8_readLine_62 : decode cX8_readLine 62 = .ok (.dup, 1) := by decide +kernel
theorem dX8_readLine_63 : decode cX8_readLine 63 = .ok (.getfield 139, 3) := by decide +kernel
theorem dX8_readLine_66 : decode cX8_readLine 66 = .ok (.iload_n 1, 1) := by decide +kernel
theorem dX8_readLine_67 : decode cX8_readLine 67 = .ok (.iconst 2, 1) := by decide +kernel
theorem dX8_readLine_68 : decode cX8_readLine 68 = .ok (.if_icmp .ge 7, 3) := by decide +kernel
theorem dX8_readLine_71 : decode cX8_readLine 71 = .ok (.iconst 1, 1) := by decide +kernel
theorem dX8_readLine_72 : decode cX8_readLine 72 = .ok (.goto 4, 3) := by decide +kernel
theorem dX8_readLine_75 : decode cX8_readLine 75 = .ok (.iconst 0, 1) := by decide +kernel
theorem dX8_readLine_76 : decode cX8_readLine 76 = .ok (.iadd, 1) := by decide +kernel
theorem dX8_readLine_77 : decode cX8_readLine 77 = .ok (.putfield 139, 3) := by decide +kernel
theorem dX8_readLine_80 : decode cX8_readLine 80 = .ok (.iinc 1 1, 3) := by decide +kernel
theorem dX8_readLine_83 : decode cX8_readLine 83 = .ok (.goto (-55), 3) := by decide +kernel
theorem dX8_readLine_86 : decode cX8_readLine 86 = .ok (.iconst 1, 1) := by decide +kernel
theorem dX8_readLine_87 : decode cX8_readLine 87 = .ok (.ireturn, 1) := by decide +kernel
set_option maxRecDepth 20000 in
theorem ggX8_line_X8_isLine : GoodIn wsX8_line wsX8_isLine := goodIn_r _ [6, 7, 8, 9, 5, 10] rfl (by decide +kernel)
set_option maxRecDepth 20000 in
theorem gX8_line_X8_isLine : GoodIn wsX8_line (va_wsS RX8 124 yX8_isLine wsX8_isLine) := goodIn_app (goodIn_of _ (by decide +kernel)) ggX8_line_X8_isLine
set_option maxRecDepth 20000 in
theorem ggX8_line_X8_readLine : GoodIn wsX8_line wsX8_readLine := goodIn_r _ [14, 2, 15, 16, 17, 18, 5, 19, 20, 21, 22, 23, 1, 24, 25, 26, 27, 28, 29, 30, 8, 9, 10, 93, 94, 95, 96, 97, 98, 99, 100, 101, 102, 103, 104, 105, 106, 107, 108, 109, 110, 111] rfl (by decide +kernel)
set_option maxRecDepth 20000 in
theorem gX8_line_X8_readLine : GoodIn wsX8_line (wsV RX8 157 RX8 yX8_readLine wsX8_readLine) := goodIn_app (goodIn_of _ (by decide +kernel)) ggX8_line_X8_readLine
set_option maxRecDepth 20000 in
theorem ggX8_line_X8_keep : GoodIn wsX8_line wsX8_keep := goodIn_r _ [34, 15, 35, 36, 37, 38, 39, 40, 41, 42, 5, 43, 44, 45, 46, 47, 48, 49, 50, 51, 52, 53, 54, 55, 56, 57, 58, 59, 60, 61, 62, 63, 64, 65, 66, 67, 8, 9, 10, 68, 69, 70, 71, 72, 73, 74, 75, 76, 77, 78, 79, 80, 81, 82, 83, 84, 85, 86, 87, 88, 89, 90, 91, 92, 93, 94, 95, 96, 97, 98, 99, 100, 101, 102, 103, 104, 105, 106, 107, 108, 109, 110, 111] rfl (by decide +kernel)
set_option maxRecDepth 20000 in
theorem gX8_line_X8_keep : GoodIn wsX8_line (wsV RX8 160 RX8 yX8_keep wsX8_keep) := goodIn_app (goodIn_of _ (by decide +kernel)) ggX8_line_X8_keep
theorem dX8_line_0 : decode cX8_line 0 = .ok (.iload_n 1, 1) := by decide +kernel
theorem dX8_line_1 : decode cX8_line 1 = .ok (.invokestatic 124, 3) := by decide +kernel
theorem dX8_line_4 : decode cX8_line 4 = .ok (.ifCond .ne 5, 3) := by decide +kernel
theorem dX8_line_7 : decode cX8_line 7 = .ok (.iconst (-1), 1) := by decide +kernel
theorem dX8_line_8 : decode cX8_line 8 = .ok (.ireturn, 1) := by decide +kernel
theorem dX8_line_9 : decode cX8_line 9 = .ok (.aload_n 0, 1) := by decide +kernel
theorem dX8_line_10 : decode cX8_line 10 = .ok (.invokevirtual 157, 3) := by decide +kernel
theorem dX8_line_13 : decode cX8_line 13 = .ok (.istore_n 2, 1) := by decide +kernel
theorem dX8_line_14 : decode cX8_line 14 = .ok (.aload_n 0, 1) := by decide +kernel
theorem dX8_line_15 : decode cX8_line 15 = .ok (.iconst 0, 1) := by decide +kernel
theorem dX8_line_16 : decode cX8_line 16 = .ok (.putfield 135, 3) := by decide +kernel
theorem dX8_line_19 : decode cX8_line 19 = .ok (.iload_n 2, 1) := by decide +kernel
theorem dX8_line_20 : decode cX8_line 20 = .ok (.ifCond .eq 11, 3) := by decide +kernel
theorem dX8_line_23 : decode cX8_line 23 = .ok (.aload_n 0, 1) := by decide +kernel
theorem dX8_line_24 : decode cX8_line 24 = .ok (.iload_n 1, 1) := by decide +kernel
theorem dX8_line_25 : decode cX8_line 25 = .ok (.invokevirtual 160, 3) := by decide +kernel
theorem dX8_line_28 : decode cX8_line 28 = .ok (.goto 10, 3) := by decide +kernel
theorem dX8_line_31 : decode cX8_line 31 = .ok (.bipush (-20), 2) := by decide +kernel
theorem dX8_line_33 : decode cX8_line 33 = .ok (.aload_n 0, 1) := by decide +kernel
theorem dX8_line_34 : decode cX8_line 34 = .ok (.getfield 139, 3) := by decide +kernel
theorem dX8_line_37 : decode cX8_line 37 = .ok (.isub, 1) := by decide +kernel
theorem dX8_line_38 : decode cX8_line 38 = .ok (.ireturn, 1) := by decide +kernel
set_option maxRecDepth 20000 in
theorem ggX8_drop_X8_against : GoodIn wsX8_drop wsX8_against := goodIn_r _ [6, 1, 7, 8, 5, 9, 10, 11, 12, 13, 39, 40, 41, 42, 43, 44, 45, 46, 47, 48, 49, 50, 51, 52, 53, 54, 55, 56, 57] rfl (by decide +kernel)
set_option maxRecDepth 20000 in
theorem gX8_drop_X8_against : GoodIn wsX8_drop (wsV RX8 163 RX8 yX8_against wsX8_against) := goodIn_app (goodIn_of _ (by decide +kernel)) ggX8_drop_X8_against
set_option maxRecDepth 20000 in
theorem ggX8_drop_X8_kindOf : GoodIn wsX8_drop wsX8_kindOf := goodIn_r _ [17, 18, 19, 20, 5, 21, 22, 23, 24, 25, 26, 27, 28, 29, 30, 31, 32, 33, 34, 35, 36, 37, 38, 39, 40, 41, 42, 43, 44, 45, 46, 47, 48, 49, 50, 51, 52, 53, 54, 55, 56, 57] rfl (by decide +kernel)
set_option maxRecDepth 20000 in
theorem gX8_drop_X8_kindOf : GoodIn wsX8_drop (wsV RX8 103 RX8 yX8_kindOf wsX8_kindOf) := goodIn_app (goodIn_of _ (by decide +kernel)) ggX8_drop_X8_kindOf
theorem dX8_drop_0 : decode cX8_drop 0 = .ok (.aload_n 0, 1) := by decide +kernel
theorem dX8_drop_1 : decode cX8_drop 1 = .ok (.iload_n 1, 1) := by decide +kernel
theorem dX8_drop_2 : decode cX8_drop 2 = .ok (.invokevirtual 163, 3) := by decide +kernel
theorem dX8_drop_5 : decode cX8_drop 5 = .ok (.istore_n 2, 1) := by decide +kernel
theorem dX8_drop_6 : decode cX8_drop 6 = .ok (.iload_n 2, 1) := by decide +kernel
theorem dX8_drop_7 : decode cX8_drop 7 = .ok (.ifCond .ge 5, 3) := by decide +kernel
theorem dX8_drop_10 : decode cX8_drop 10 = .ok (.iload_n 2, 1) := by decide +kernel
theorem dX8_drop_11 : decode cX8_drop 11 = .ok (.ireturn, 1) := by decide +kernel
theorem dX8_drop_12 : decode cX8_drop 12 = .ok (.aload_n 0, 1) := by decide +kernel
theorem dX8_drop_13 : decode cX8_drop 13 = .ok (.getfield 7, 3) := by decide +kernel
theorem dX8_drop_16 : decode cX8_drop 16 = .ok (.iload_n 1, 1) := by decide +kernel
theorem dX8_drop_17 : decode cX8_drop 17 = .ok (.iconst 0, 1) := by decide +kernel
theorem dX8_drop_18 : decode cX8_drop 18 = .ok (.bastore, 1) := by decide +kernel
theorem dX8_drop_19 : decode cX8_drop 19 = .ok (.aload_n 0, 1) := by decide +kernel
theorem dX8_drop_20 : decode cX8_drop 20 = .ok (.iload_n 1, 1) := by decide +kernel
theorem dX8_drop_21 : decode cX8_drop 21 = .ok (.invokevirtual 103, 3) := by decide +kernel
theorem dX8_drop_24 : decode cX8_drop 24 = .ok (.ireturn, 1) := by decide +kernel
set_option maxRecDepth 20000 in
theorem ggX8_kind_X8_against : GoodIn wsX8_kind wsX8_against := goodIn_r _ [5, 6, 7, 8, 4, 9, 10, 11, 12, 13, 39, 40, 41, 42, 43, 44, 45, 46, 47, 48, 49, 50, 51, 52, 53, 54, 55, 56, 57] rfl (by decide +kernel)
set_option maxRecDepth 20000 in
theorem gX8_kind_X8_against : GoodIn wsX8_kind (wsV RX8 163 RX8 yX8_against wsX8_against) := goodIn_app (goodIn_of _ (by decide +kernel)) ggX8_kind_X8_against
set_option maxRecDepth 20000 in
theorem ggX8_kind_X8_kindOf : GoodIn wsX8_kind wsX8_kindOf := goodIn_r _ [17, 18, 19, 20, 4, 21, 22, 23, 24, 25, 26, 27, 28, 29, 30, 31, 32, 33, 34, 35, 36, 37, 38, 39, 40, 41, 42, 43, 44, 45, 46, 47, 48, 49, 50, 51, 52, 53, 54, 55, 56, 57] rfl (by decide +kernel)
set_option maxRecDepth 20000 in
theorem gX8_kind_X8_kindOf : GoodIn wsX8_kind (wsV RX8 103 RX8 yX8_kindOf wsX8_kindOf) := goodIn_app (goodIn_of _ (by decide +kernel)) ggX8_kind_X8_kindOf
theorem dX8_kind_0 : decode cX8_kind 0 = .ok (.aload_n 0, 1) := by decide +kernel
theorem dX8_kind_1 : decode cX8_kind 1 = .ok (.iload_n 1, 1) := by decide +kernel
theorem dX8_kind_2 : decode cX8_kind 2 = .ok (.invokevirtual 163, 3) := by decide +kernel
theorem dX8_kind_5 : decode cX8_kind 5 = .ok (.istore_n 2, 1) := by decide +kernel
theorem dX8_kind_6 : decode cX8_kind 6 = .ok (.iload_n 2, 1) := by decide +kernel
theorem dX8_kind_7 : decode cX8_kind 7 = .ok (.ifCond .ge 7, 3) := by decide +kernel
theorem dX8_kind_10 : decode cX8_kind 10 = .ok (.iload_n 2, 1) := by decide +kernel
theorem dX8_kind_11 : decode cX8_kind 11 = .ok (.goto 8, 3) := by decide +kernel
theorem dX8_kind_14 : decode cX8_kind 14 = .ok (.aload_n 0, 1) := by decide +kernel
theorem dX8_kind_15 : decode cX8_kind 15 = .ok (.iload_n 1, 1) := by decide +kernel
theorem dX8_kind_16 : decode cX8_kind 16 = .ok (.invokevirtual 103, 3) := by decide +kernel
theorem dX8_kind_19 : decode cX8_kind 19 = .ok (.ireturn, 1) := by decide +kernel
set_option maxRecDepth 20000 in
theorem ggX8_degree_X8_against : GoodIn wsX8_degree wsX8_against := goodIn_r _ [5, 6, 7, 8, 4, 9, 10, 11, 12, 13, 22, 23, 24, 25, 26, 27, 28, 29, 30, 31, 32, 33, 34, 35, 36, 37, 38, 39, 40] rfl (by decide +kernel)
set_option maxRecDepth 20000 in
theorem gX8_degree_X8_against : GoodIn wsX8_degree (wsV RX8 163 RX8 yX8_against wsX8_against) := goodIn_app (goodIn_of _ (by decide +kernel)) ggX8_degree_X8_against
set_option maxRecDepth 20000 in
theorem ggX8_degree_X8_degreeOf : GoodIn wsX8_degree wsX8_degreeOf := goodIn_r _ [17, 18, 19, 20, 4, 21, 22, 23, 24, 25, 26, 27, 28, 29, 30, 31, 32, 33, 34, 35, 36, 37, 38, 39, 40] rfl (by decide +kernel)
set_option maxRecDepth 20000 in
theorem gX8_degree_X8_degreeOf : GoodIn wsX8_degree (wsV RX8 111 RX8 yX8_degreeOf wsX8_degreeOf) := goodIn_app (goodIn_of _ (by decide +kernel)) ggX8_degree_X8_degreeOf
theorem dX8_degree_0 : decode cX8_degree 0 = .ok (.aload_n 0, 1) := by decide +kernel
theorem dX8_degree_1 : decode cX8_degree 1 = .ok (.iload_n 1, 1) := by decide +kernel
theorem dX8_degree_2 : decode cX8_degree 2 = .ok (.invokevirtual 163, 3) := by decide +kernel
theorem dX8_degree_5 : decode cX8_degree 5 = .ok (.istore_n 2, 1) := by decide +kernel
theorem dX8_degree_6 : decode cX8_degree 6 = .ok (.iload_n 2, 1) := by decide +kernel
theorem dX8_degree_7 : decode cX8_degree 7 = .ok (.ifCond .ge 7, 3) := by decide +kernel
theorem dX8_degree_10 : decode cX8_degree 10 = .ok (.iload_n 2, 1) := by decide +kernel
theorem dX8_degree_11 : decode cX8_degree 11 = .ok (.goto 8, 3) := by decide +kernel
theorem dX8_degree_14 : decode cX8_degree 14 = .ok (.aload_n 0, 1) := by decide +kernel
theorem dX8_degree_15 : decode cX8_degree 15 = .ok (.iload_n 1, 1) := by decide +kernel
theorem dX8_degree_16 : decode cX8_degree 16 = .ok (.invokevirtual 111, 3) := by decide +kernel
theorem dX8_degree_19 : decode cX8_degree 19 = .ok (.ireturn, 1) := by decide +kernel
set_option maxRecDepth 20000 in
theorem ggX8_told_X8_in : GoodIn wsX8_told wsX8_in := goodIn_r _ [7] rfl (by decide +kernel)
set_option maxRecDepth 20000 in
theorem gX8_told_X8_in : GoodIn wsX8_told (va_wsS RX8 79 yX8_in wsX8_in) := goodIn_app (goodIn_of _ (by decide +kernel)) ggX8_told_X8_in
set_option maxRecDepth 20000 in
theorem ggX8_told_X8_against : GoodIn wsX8_told wsX8_against := goodIn_r _ [11, 12, 13, 14, 6, 15, 2, 4, 5, 7, 16, 17, 18, 19, 20, 21, 22, 23, 24, 25, 26, 27, 28, 29, 30, 31, 32, 33, 34] rfl (by decide +kernel)
set_option maxRecDepth 20000 in
theorem gX8_told_X8_against : GoodIn wsX8_told (wsV RX8 163 RX8 yX8_against wsX8_against) := goodIn_app (goodIn_of _ (by decide +kernel)) ggX8_told_X8_against
theorem dX8_told_0 : decode cX8_told 0 = .ok (.iload_n 2, 1) := by decide +kernel
theorem dX8_told_1 : decode cX8_told 1 = .ok (.i2l, 1) := by decide +kernel
theorem dX8_told_2 : decode cX8_told 2 = .ok (.lconst 0, 1) := by decide +kernel
theorem dX8_told_3 : decode cX8_told 3 = .ok (.ldc2_w 166, 3) := by decide +kernel
theorem dX8_told_6 : decode cX8_told 6 = .ok (.invokestatic 79, 3) := by decide +kernel
theorem dX8_told_9 : decode cX8_told 9 = .ok (.ifCond .eq 15, 3) := by decide +kernel
theorem dX8_told_12 : decode cX8_told 12 = .ok (.iload_n 3, 1) := by decide +kernel
theorem dX8_told_13 : decode cX8_told 13 = .ok (.i2l, 1) := by decide +kernel
theorem dX8_told_14 : decode cX8_told 14 = .ok (.lconst 0, 1) := by decide +kernel
theorem dX8_told_15 : decode cX8_told 15 = .ok (.ldc2_w 122, 3) := by decide +kernel
theorem dX8_told_18 : decode cX8_told 18 = .ok (.invokestatic 79, 3) := by decide +kernel
theorem dX8_told_21 : decode cX8_told 21 = .ok (.ifCond .ne 7, 3) := by decide +kernel
theorem dX8_told_24 : decode cX8_told 24 = .ok (.iconst (-1), 1) := by decide +kernel
theorem dX8_told_25 : decode cX8_told 25 = .ok (.goto 8, 3) := by decide +kernel
theorem dX8_told_28 : decode cX8_told 28 = .ok (.aload_n 0, 1) := by decide +kernel
theorem dX8_told_29 : decode cX8_told 29 = .ok (.iload_n 1, 1) := by decide +kernel
theorem dX8_told_30 : decode cX8_told 30 = .ok (.invokevirtual 163, 3) := by decide +kernel
theorem dX8_told_33 : decode cX8_told 33 = .ok (.istore 4, 2) := by decide +kernel
theorem dX8_told_35 : decode cX8_told 35 = .ok (.iload 4, 2) := by decide +kernel
theorem dX8_told_37 : decode cX8_told 37 = .ok (.ifCond .ge 12, 3) := by decide +kernel
theorem dX8_told_40 : decode cX8_told 40 = .ok (.iload 4, 2) := by decide +kernel
theorem dX8_told_42 : decode cX8_told 42 = .ok (.sipush 1000, 3) := by decide +kernel
theorem dX8_told_45 : decode cX8_told 45 = .ok (.isub, 1) := by decide +kernel
theorem dX8_told_46 : decode cX8_told 46 = .ok (.goto 19, 3) := by decide +kernel
theorem dX8_told_49 : decode cX8_told 49 = .ok (.aload_n 0, 1) := by decide +kernel
theorem dX8_told_50 : decode cX8_told 50 = .ok (.getfield 13, 3) := by decide +kernel
theorem dX8_told_53 : decode cX8_told 53 = .ok (.bipush 12, 2) := by decide +kernel
theorem dX8_told_55 : decode cX8_told 55 = .ok (.iload_n 1, 1) := by decide +kernel
theorem dX8_told_56 : decode cX8_told 56 = .ok (.imul, 1) := by decide +kernel
theorem dX8_told_57 : decode cX8_told 57 = .ok (.iconst 4, 1) := by decide +kernel
theorem dX8_told_58 : decode cX8_told 58 = .ok (.iload_n 2, 1) := by decide +kernel
theorem dX8_told_59 : decode cX8_told 59 = .ok (.imul, 1) := by decide +kernel
theorem dX8_told_60 : decode cX8_told 60 = .ok (.iadd, 1) := by decide +kernel
theorem dX8_told_61 : decode cX8_told 61 = .ok (.iload_n 3, 1) := by decide +kernel
theorem dX8_told_62 : decode cX8_told 62 = .ok (.iadd, 1) := by decide +kernel
theorem dX8_told_63 : decode cX8_told 63 = .ok (.laload, 1) := by decide +kernel
theorem dX8_told_64 : decode cX8_told 64 = .ok (.l2i, 1) := by decide +kernel
theorem dX8_told_65 : decode cX8_told 65 = .ok (.ireturn, 1) := by decide +kernel
theorem dX8_valueAt_0 : decode cX8_valueAt 0 = .ok (.aload_n 0, 1) := by decide +kernel
theorem dX8_valueAt_1 : decode cX8_valueAt 1 = .ok (.getfield 13, 3) := by decide +kernel
theorem dX8_valueAt_4 : decode cX8_valueAt 4 = .ok (.iload_n 1, 1) := by decide +kernel
theorem dX8_valueAt_5 : decode cX8_valueAt 5 = .ok (.iconst 3, 1) := by decide +kernel
theorem dX8_valueAt_6 : decode cX8_valueAt 6 = .ok (.iadd, 1) := by decide +kernel
theorem dX8_valueAt_7 : decode cX8_valueAt 7 = .ok (.laload, 1) := by decide +kernel
theorem dX8_valueAt_8 : decode cX8_valueAt 8 = .ok (.lload_n 2, 1) := by decide +kernel
theorem dX8_valueAt_9 : decode cX8_valueAt 9 = .ok (.lmul, 1) := by decide +kernel
theorem dX8_valueAt_10 : decode cX8_valueAt 10 = .ok (.aload_n 0, 1) := by decide +kernel
theorem dX8_valueAt_11 : decode cX8_valueAt 11 = .ok (.getfield 13, 3) := by decide +kernel
theorem dX8_valueAt_14 : decode cX8_valueAt 14 = .ok (.iload_n 1, 1) := by decide +kernel
theorem dX8_valueAt_15 : decode cX8_valueAt 15 = .ok (.iconst 2, 1) := by decide +kernel
theorem dX8_valueAt_16 : decode cX8_valueAt 16 = .ok (.iadd, 1) := by decide +kernel
theorem dX8_valueAt_17 : decode cX8_valueAt 17 = .ok (.laload, 1) := by decide +kernel
theorem dX8_valueAt_18 : decode cX8_valueAt 18 = .ok (.lload 4, 2) := by decide +kernel
theorem dX8_valueAt_20 : decode cX8_valueAt 20 = .ok (.lmul, 1) := by decide +kernel
theorem dX8_valueAt_21 : decode cX8_valueAt 21 = .ok (.ladd, 1) := by decide +kernel
theorem dX8_valueAt_22 : decode cX8_valueAt 22 = .ok (.lload_n 2, 1) := by decide +kernel
theorem dX8_valueAt_23 : decode cX8_valueAt 23 = .ok (.lmul, 1) := by decide +kernel
theorem dX8_valueAt_24 : decode cX8_valueAt 24 = .ok (.aload_n 0, 1) := by decide +kernel
theorem dX8_valueAt_25 : decode cX8_valueAt 25 = .ok (.getfield 13, 3) := by decide +kernel
theorem dX8_valueAt_28 : decode cX8_valueAt 28 = .ok (.iload_n 1, 1) := by decide +kernel
theorem dX8_valueAt_29 : decode cX8_valueAt 29 = .ok (.iconst 1, 1) := by decide +kernel
theorem dX8_valueAt_30 : decode cX8_valueAt 30 = .ok (.iadd, 1) := by decide +kernel
theorem dX8_valueAt_31 : decode cX8_valueAt 31 = .ok (.laload, 1) := by decide +kernel
theorem dX8_valueAt_32 : decode cX8_valueAt 32 = .ok (.lload 4, 2) := by decide +kernel
theorem dX8_valueAt_34 : decode cX8_valueAt 34 = .ok (.lmul, 1) := by decide +kernel
theorem dX8_valueAt_35 : decode cX8_valueAt 35 = .ok (.lload 4, 2) := by decide +kernel
theorem dX8_valueAt_37 : decode cX8_valueAt 37 = .ok (.lmul, 1) := by decide +kernel
theorem dX8_valueAt_38 : decode cX8_valueAt 38 = .ok (.ladd, 1) := by decide +kernel
theorem dX8_valueAt_39 : decode cX8_valueAt 39 = .ok (.lload_n 2, 1) := by decide +kernel
theorem dX8_valueAt_40 : decode cX8_valueAt 40 = .ok (.lmul, 1) := by decide +kernel
theorem dX8_valueAt_41 : decode cX8_valueAt 41 = .ok (.aload_n 0, 1) := by decide +kernel
theorem dX8_valueAt_42 : decode cX8_valueAt 42 = .ok (.getfield 13, 3) := by decide +kernel
theorem dX8_valueAt_45 : decode cX8_valueAt 45 = .ok (.iload_n 1, 1) := by decide +kernel
theorem dX8_valueAt_46 : decode cX8_valueAt 46 = .ok (.laload, 1) := by decide +kernel
theorem dX8_valueAt_47 : decode cX8_valueAt 47 = .ok (.lload 4, 2) := by decide +kernel
theorem dX8_valueAt_49 : decode cX8_valueAt 49 = .ok (.lmul, 1) := by decide +kernel
theorem dX8_valueAt_50 : decode cX8_valueAt 50 = .ok (.lload 4, 2) := by decide +kernel
theorem dX8_valueAt_52 : decode cX8_valueAt 52 = .ok (.lmul, 1) := by decide +kernel
theorem dX8_valueAt_53 : decode cX8_valueAt 53 = .ok (.lload 4, 2) := by decide +kernel
theorem dX8_valueAt_55 : decode cX8_valueAt 55 = .ok (.lmul, 1) := by decide +kernel
theorem dX8_valueAt_56 : decode cX8_valueAt 56 = .ok (.ladd, 1) := by decide +kernel
theorem dX8_valueAt_57 : decode cX8_valueAt 57 = .ok (.lreturn, 1) := by decide +kernel
set_option maxRecDepth 20000 in
theorem ggX8_isTime_X8_in : GoodIn wsX8_isTime wsX8_in := goodIn_r _ [6] rfl (by decide +kernel)
set_option maxRecDepth 20000 in
theorem gX8_isTime_X8_in : GoodIn wsX8_isTime (va_wsS RX8 79 yX8_in wsX8_in) := goodIn_app (goodIn_of _ (by decide +kernel)) ggX8_isTime_X8_in
theorem dX8_isTime_0 : decode cX8_isTime 0 = .ok (.iload_n 0, 1) := by decide +kernel
theorem dX8_isTime_1 : decode cX8_isTime 1 = .ok (.i2l, 1) := by decide +kernel
theorem dX8_isTime_2 : decode cX8_isTime 2 = .ok (.ldc2_w 168, 3) := by decide +kernel
theorem dX8_isTime_5 : decode cX8_isTime 5 = .ok (.ldc2_w 170, 3) := by decide +kernel
theorem dX8_isTime_8 : decode cX8_isTime 8 = .ok (.invokestatic 79, 3) := by decide +kernel
theorem dX8_isTime_11 : decode cX8_isTime 11 = .ok (.ifCond .eq 19, 3) := by decide +kernel
theorem dX8_isTime_14 : decode cX8_isTime 14 = .ok (.iload_n 1, 1) := by decide +kernel
theorem dX8_isTime_15 : decode cX8_isTime 15 = .ok (.i2l, 1) := by decide +kernel
theorem dX8_isTime_16 : decode cX8_isTime 16 = .ok (.lconst 1, 1) := by decide +kernel
theorem dX8_isTime_17 : decode cX8_isTime 17 = .ok (.ldc2_w 170, 3) := by decide +kernel
theorem dX8_isTime_20 : decode cX8_isTime 20 = .ok (.invokestatic 79, 3) := by decide +kernel
theorem dX8_isTime_23 : decode cX8_isTime 23 = .ok (.ifCond .eq 7, 3) := by decide +kernel
theorem dX8_isTime_26 : decode cX8_isTime 26 = .ok (.iconst 1, 1) := by decide +kernel
theorem dX8_isTime_27 : decode cX8_isTime 27 = .ok (.goto 4, 3) := by decide +kernel
theorem dX8_isTime_30 : decode cX8_isTime 30 = .ok (.iconst 0, 1) := by decide +kernel
theorem dX8_isTime_31 : decode cX8_isTime 31 = .ok (.ireturn, 1) := by decide +kernel
set_option maxRecDepth 20000 in
theorem ggX8_at_X8_isTime : GoodIn wsX8_at wsX8_isTime := goodIn_r _ [6, 7, 8, 9, 10, 5, 11] rfl (by decide +kernel)
set_option maxRecDepth 20000 in
theorem gX8_at_X8_isTime : GoodIn wsX8_at (va_wsS RX8 172 yX8_isTime wsX8_isTime) := goodIn_app (goodIn_of _ (by decide +kernel)) ggX8_at_X8_isTime
set_option maxRecDepth 20000 in
theorem ggX8_at_X8_in : GoodIn wsX8_at wsX8_in := goodIn_r _ [11] rfl (by decide +kernel)
set_option maxRecDepth 20000 in
theorem gX8_at_X8_in : GoodIn wsX8_at (va_wsS RX8 79 yX8_in wsX8_in) := goodIn_app (goodIn_of _ (by decide +kernel)) ggX8_at_X8_in
set_option maxRecDepth 20000 in
theorem ggX8_at_X8_against : GoodIn wsX8_at wsX8_against := goodIn_r _ [15, 16, 17, 18, 5, 19, 20, 9, 10, 11, 29, 30, 31, 32, 33, 34, 35, 36, 37, 38, 39, 40, 41, 42, 43, 44, 45, 46, 47] rfl (by decide +kernel)
set_option maxRecDepth 20000 in
theorem gX8_at_X8_against : GoodIn wsX8_at (wsV RX8 163 RX8 yX8_against wsX8_against) := goodIn_app (goodIn_of _ (by decide +kernel)) ggX8_at_X8_against
set_option maxRecDepth 20000 in
theorem ggX8_at_X8_valueAt : GoodIn wsX8_at wsX8_valueAt := goodIn_r _ [24, 25, 29, 30, 31, 32, 33, 34, 35, 36, 37, 38, 39, 40, 41, 42, 43, 44, 45, 46, 47] rfl (by decide +kernel)
set_option maxRecDepth 20000 in
theorem gX8_at_X8_valueAt : GoodIn wsX8_at (wsV RX8 177 RX8 yX8_valueAt wsX8_valueAt) := goodIn_app (goodIn_of _ (by decide +kernel)) ggX8_at_X8_valueAt
set_option maxRecDepth 20000 in
theorem ggX8_at_X8_common : GoodIn wsX8_at wsX8_common := goodIn_r _ [28] rfl (by decide +kernel)
set_option maxRecDepth 20000 in
theorem gX8_at_X8_common : GoodIn wsX8_at (va_wsS RX8 63 yX8_common wsX8_common) := goodIn_app (goodIn_of _ (by decide +kernel)) ggX8_at_X8_common
theorem dX8_at_0 : decode cX8_at 0 = .ok (.iload_n 2, 1) := by decide +kernel
theorem dX8_at_1 : decode cX8_at 1 = .ok (.iload_n 3, 1) := by decide +kernel
theorem dX8_at_2 : decode cX8_at 2 = .ok (.invokestatic 172, 3) := by decide +kernel
theorem dX8_at_5 : decode cX8_at 5 = .ok (.ifCond .eq 25, 3) := by decide +kernel
theorem dX8_at_8 : decode cX8_at 8 = .ok (.iload 4, 2) := by decide +kernel
theorem dX8_at_10 : decode cX8_at 10 = .ok (.i2l, 1) := by decide +kernel
theorem dX8_at_11 : decode cX8_at 11 = .ok (.lconst 0, 1) := by decide +kernel
theorem dX8_at_12 : decode cX8_at 12 = .ok (.lconst 1, 1) := by decide +kernel
theorem dX8_at_13 : decode cX8_at 13 = .ok (.invokestatic 79, 3) := by decide +kernel
theorem dX8_at_16 : decode cX8_at 16 = .ok (.ifCond .eq 14, 3) := by decide +kernel
theorem dX8_at_19 : decode cX8_at 19 = .ok (.iload 5, 2) := by decide +kernel
theorem dX8_at_21 : decode cX8_at 21 = .ok (.i2l, 1) := by decide +kernel
theorem dX8_at_22 : decode cX8_at 22 = .ok (.lconst 0, 1) := by decide +kernel
theorem dX8_at_23 : decode cX8_at 23 = .ok (.lconst 1, 1) := by decide +kernel
theorem dX8_at_24 : decode cX8_at 24 = .ok (.invokestatic 79, 3) := by decide +kernel
theorem dX8_at_27 : decode cX8_at 27 = .ok (.ifCond .ne 7, 3) := by decide +kernel
theorem dX8_at_30 : decode cX8_at 30 = .ok (.iconst (-1), 1) := by decide +kernel
theorem dX8_at_31 : decode cX8_at 31 = .ok (.goto 8, 3) := by decide +kernel
theorem dX8_at_34 : decode cX8_at 34 = .ok (.aload_n 0, 1) := by decide +kernel
theorem dX8_at_35 : decode cX8_at 35 = .ok (.iload_n 1, 1) := by decide +kernel
theorem dX8_at_36 : decode cX8_at 36 = .ok (.invokevirtual 163, 3) := by decide +kernel
theorem dX8_at_39 : decode cX8_at 39 = .ok (.istore 6, 2) := by decide +kernel
theorem dX8_at_41 : decode cX8_at 41 = .ok (.iload 6, 2) := by decide +kernel
theorem dX8_at_43 : decode cX8_at 43 = .ok (.ifCond .ge 11, 3) := by decide +kernel
theorem dX8_at_46 : decode cX8_at 46 = .ok (.iload 6, 2) := by decide +kernel
theorem dX8_at_48 : decode cX8_at 48 = .ok (.i2l, 1) := by decide +kernel
theorem dX8_at_49 : decode cX8_at 49 = .ok (.ldc2_w 175, 3) := by decide +kernel
theorem dX8_at_52 : decode cX8_at 52 = .ok (.lsub, 1) := by decide +kernel
theorem dX8_at_53 : decode cX8_at 53 = .ok (.lreturn, 1) := by decide +kernel
theorem dX8_at_54 : decode cX8_at 54 = .ok (.aload_n 0, 1) := by decide +kernel
theorem dX8_at_55 : decode cX8_at 55 = .ok (.bipush 12, 2) := by decide +kernel
theorem dX8_at_57 : decode cX8_at 57 = .ok (.iload_n 1, 1) := by decide +kernel
theorem dX8_at_58 : decode cX8_at 58 = .ok (.imul, 1) := by decide +kernel
theorem dX8_at_59 : decode cX8_at 59 = .ok (.iconst 4, 1) := by decide +kernel
theorem dX8_at_60 : decode cX8_at 60 = .ok (.iload 4, 2) := by decide +kernel
theorem dX8_at_62 : decode cX8_at 62 = .ok (.imul, 1) := by decide +kernel
theorem dX8_at_63 : decode cX8_at 63 = .ok (.iadd, 1) := by decide +kernel
theorem dX8_at_64 : decode cX8_at 64 = .ok (.iload_n 2, 1) := by decide +kernel
theorem dX8_at_65 : decode cX8_at 65 = .ok (.i2l, 1) := by decide +kernel
theorem dX8_at_66 : decode cX8_at 66 = .ok (.iload_n 3, 1) := by decide +kernel
theorem dX8_at_67 : decode cX8_at 67 = .ok (.i2l, 1) := by decide +kernel
theorem dX8_at_68 : decode cX8_at 68 = .ok (.invokevirtual 177, 3) := by decide +kernel
theorem dX8_at_71 : decode cX8_at 71 = .ok (.lstore 7, 2) := by decide +kernel
theorem dX8_at_73 : decode cX8_at 73 = .ok (.aload_n 0, 1) := by decide +kernel
theorem dX8_at_74 : decode cX8_at 74 = .ok (.bipush 12, 2) := by decide +kernel
theorem dX8_at_76 : decode cX8_at 76 = .ok (.iload_n 1, 1) := by decide +kernel
theorem dX8_at_77 : decode cX8_at 77 = .ok (.imul, 1) := by decide +kernel
theorem dX8_at_78 : decode cX8_at 78 = .ok (.bipush 8, 2) := by decide +kernel
theorem dX8_at_80 : decode cX8_at 80 = .ok (.iadd, 1) := by decide +kernel
theorem dX8_at_81 : decode cX8_at 81 = .ok (.iload_n 2, 1) := by decide +kernel
theorem dX8_at_82 : decode cX8_at 82 = .ok (.i2l, 1) := by decide +kernel
theorem dX8_at_83 : decode cX8_at 83 = .ok (.iload_n 3, 1) := by decide +kernel
theorem dX8_at_84 : decode cX8_at 84 = .ok (.i2l, 1) := by decide +kernel
theorem dX8_at_85 : decode cX8_at 85 = .ok (.invokevirtual 177, 3) := by decide +kernel
theorem dX8_at_88 : decode cX8_at 88 = .ok (.lstore 9, 2) := by decide +kernel
theorem dX8_at_90 : decode cX8_at 90 = .ok (.lload 9, 2) := by decide +kernel
theorem dX8_at_92 : decode cX8_at 92 = .ok (.lconst 0, 1) := by decide +kernel
theorem dX8_at_93 : decode cX8_at 93 = .ok (.lcmp, 1) := by decide +kernel
theorem dX8_at_94 : decode cX8_at 94 = .ok (.ifCond .ne 7, 3) := by decide +kernel
theorem dX8_at_97 : decode cX8_at 97 = .ok (.ldc2_w 181, 3) := by decide +kernel
theorem dX8_at_100 : decode cX8_at 100 = .ok (.lreturn, 1) := by decide +kernel
theorem dX8_at_101 : decode cX8_at 101 = .ok (.lload 7, 2) := by decide +kernel
theorem dX8_at_103 : decode cX8_at 103 = .ok (.lload 9, 2) := by decide +kernel
theorem dX8_at_105 : decode cX8_at 105 = .ok (.invokestatic 63, 3) := by decide +kernel
theorem dX8_at_108 : decode cX8_at 108 = .ok (.lstore 11, 2) := by decide +kernel
theorem dX8_at_110 : decode cX8_at 110 = .ok (.lload 9, 2) := by decide +kernel
theorem dX8_at_112 : decode cX8_at 112 = .ok (.lconst 0, 1) := by decide +kernel
theorem dX8_at_113 : decode cX8_at 113 = .ok (.lcmp, 1) := by decide +kernel
theorem dX8_at_114 : decode cX8_at 114 = .ok (.ifCond .ge 9, 3) := by decide +kernel
theorem dX8_at_117 : decode cX8_at 117 = .ok (.lload 11, 2) := by decide +kernel
theorem dX8_at_119 : decode cX8_at 119 = .ok (.lneg, 1) := by decide +kernel
theorem dX8_at_120 : decode cX8_at 120 = .ok (.goto 5, 3) := by decide +kernel
theorem dX8_at_123 : decode cX8_at 123 = .ok (.lload 11, 2) := by decide +kernel
theorem dX8_at_125 : decode cX8_at 125 = .ok (.lstore 11, 2) := by decide +kernel
theorem dX8_at_127 : decode cX8_at 127 = .ok (.iload 5, 2) := by decide +kernel
theorem dX8_at_129 : decode cX8_at 129 = .ok (.ifCond .ne 11, 3) := by decide +kernel
theorem dX8_at_132 : decode cX8_at 132 = .ok (.lload 7, 2) := by decide +kernel
theorem dX8_at_134 : decode cX8_at 134 = .ok (.lload 11, 2) := by decide +kernel
theorem dX8_at_136 : decode cX8_at 136 = .ok (.ldiv, 1) := by decide +kernel
theorem dX8_at_137 : decode cX8_at 137 = .ok (.goto 8, 3) := by decide +kernel
theorem dX8_at_140 : decode cX8_at 140 = .ok (.lload 9, 2) := by decide +kernel
theorem dX8_at_142 : decode cX8_at 142 = .ok (.lload 11, 2) := by decide +kernel
theorem dX8_at_144 : decode cX8_at 144 = .ok (.ldiv, 1) := by decide +kernel
theorem dX8_at_145 : decode cX8_at 145 = .ok (.lreturn, 1) := by decide +kernel
set_option maxRecDepth 20000 in
theorem ggX8_tidy_X8_common : GoodIn wsX8_tidy wsX8_common := goodIn_r _ [5] rfl (by decide +kernel)
set_option maxRecDepth 20000 in
theorem gX8_tidy_X8_common : GoodIn wsX8_tidy (va_wsS RX8 63 yX8_common wsX8_common) := goodIn_app (goodIn_of _ (by decide +kernel)) ggX8_tidy_X8_common
theorem dX8_tidy_0 : decode cX8_tidy 0 = .ok (.aload_n 0, 1) := by decide +kernel
theorem dX8_tidy_1 : decode cX8_tidy 1 = .ok (.getfield 33, 3) := by decide +kernel
theorem dX8_tidy_4 : decode cX8_tidy 4 = .ok (.iconst 0, 1) := by decide +kernel
theorem dX8_tidy_5 : decode cX8_tidy 5 = .ok (.laload, 1) := by decide +kernel
theorem dX8_tidy_6 : decode cX8_tidy 6 = .ok (.aload_n 0, 1) := by decide +kernel
theorem dX8_tidy_7 : decode cX8_tidy 7 = .ok (.getfield 33, 3) := by decide +kernel
theorem dX8_tidy_10 : decode cX8_tidy 10 = .ok (.iconst 1, 1) := by decide +kernel
theorem dX8_tidy_11 : decode cX8_tidy 11 = .ok (.laload, 1) := by decide +kernel
theorem dX8_tidy_12 : decode cX8_tidy 12 = .ok (.invokestatic 63, 3) := by decide +kernel
theorem dX8_tidy_15 : decode cX8_tidy 15 = .ok (.aload_n 0, 1) := by decide +kernel
theorem dX8_tidy_16 : decode cX8_tidy 16 = .ok (.getfield 33, 3) := by decide +kernel
theorem dX8_tidy_19 : decode cX8_tidy 19 = .ok (.iconst 2, 1) := by decide +kernel
theorem dX8_tidy_20 : decode cX8_tidy 20 = .ok (.laload, 1) := by decide +kernel
theorem dX8_tidy_21 : decode cX8_tidy 21 = .ok (.invokestatic 63, 3) := by decide +kernel
theorem dX8_tidy_24 : decode cX8_tidy 24 = .ok (.lstore_n 2, 1) := by decide +kernel
theorem dX8_tidy_25 : decode cX8_tidy 25 = .ok (.aload_n 0, 1) := by decide +kernel
theorem dX8_tidy_26 : decode cX8_tidy 26 = .ok (.getfield 33, 3) := by decide +kernel
theorem dX8_tidy_29 : decode cX8_tidy 29 = .ok (.iconst 0, 1) := by decide +kernel
theorem dX8_tidy_30 : decode cX8_tidy 30 = .ok (.laload, 1) := by decide +kernel
theorem dX8_tidy_31 : decode cX8_tidy 31 = .ok (.lconst 0, 1) := by decide +kernel
theorem dX8_tidy_32 : decode cX8_tidy 32 = .ok (.lcmp, 1) := by decide +kernel
theorem dX8_tidy_33 : decode cX8_tidy 33 = .ok (.ifCond .eq 12, 3) := by decide +kernel
theorem dX8_tidy_36 : decode cX8_tidy 36 = .ok (.aload_n 0, 1) := by decide +kernel
theorem dX8_tidy_37 : decode cX8_tidy 37 = .ok (.getfield 33, 3) := by decide +kernel
theorem dX8_tidy_40 : decode cX8_tidy 40 = .ok (.iconst 0, 1) := by decide +kernel
theorem dX8_tidy_41 : decode cX8_tidy 41 = .ok (.laload, 1) := by decide +kernel
theorem dX8_tidy_42 : decode cX8_tidy 42 = .ok (.goto 29, 3) := by decide +kernel
theorem dX8_tidy_45 : decode cX8_tidy 45 = .ok (.aload_n 0, 1) := by decide +kernel
theorem dX8_tidy_46 : decode cX8_tidy 46 = .ok (.getfield 33, 3) := by decide +kernel
theorem dX8_tidy_49 : decode cX8_tidy 49 = .ok (.iconst 1, 1) := by decide +kernel
theorem dX8_tidy_50 : decode cX8_tidy 50 = .ok (.laload, 1) := by decide +kernel
theorem dX8_tidy_51 : decode cX8_tidy 51 = .ok (.lconst 0, 1) := by decide +kernel
theorem dX8_tidy_52 : decode cX8_tidy 52 = .ok (.lcmp, 1) := by decide +kernel
theorem dX8_tidy_53 : decode cX8_tidy 53 = .ok (.ifCond .eq 12, 3) := by decide +kernel
theorem dX8_tidy_56 : decode cX8_tidy 56 = .ok (.aload_n 0, 1) := by decide +kernel
theorem dX8_tidy_57 : decode cX8_tidy 57 = .ok (.getfield 33, 3) := by decide +kernel
theorem dX8_tidy_60 : decode cX8_tidy 60 = .ok (.iconst 1, 1) := by decide +kernel
theorem dX8_tidy_61 : decode cX8_tidy 61 = .ok (.laload, 1) := by decide +kernel
theorem dX8_tidy_62 : decode cX8_tidy 62 = .ok (.goto 9, 3) := by decide +kernel
theorem dX8_tidy_65 : decode cX8_tidy 65 = .ok (.aload_n 0, 1) := by decide +kernel
theorem dX8_tidy_66 : decode cX8_tidy 66 = .ok (.getfield 33, 3) := by decide +kernel
theorem dX8_tidy_69 : decode cX8_tidy 69 = .ok (.iconst 2, 1) := by decide +kernel
theorem dX8_tidy_70 : decode cX8_tidy 70 = .ok (.laload, 1) := by decide +kernel
theorem dX8_tidy_71 : decode cX8_tidy 71 = .ok (.lstore 4, 2) := by decide +kernel
theorem dX8_tidy_73 : decode cX8_tidy 73 = .ok (.aload_n 0, 1) := by decide +kernel
theorem dX8_tidy_74 : decode cX8_tidy 74 = .ok (.getfield 33, 3) := by decide +kernel
theorem dX8_tidy_77 : decode cX8_tidy 77 = .ok (.iconst 2, 1) := by decide +kernel
theorem dX8_tidy_78 : decode cX8_tidy 78 = .ok (.laload, 1) := by decide +kernel
theorem dX8_tidy_79 : decode cX8_tidy 79 = .ok (.lconst 0, 1) := by decide +kernel
theorem dX8_tidy_80 : decode cX8_tidy 80 = .ok (.lcmp, 1) := by decide +kernel
theorem dX8_tidy_81 : decode cX8_tidy 81 = .ok (.ifCond .eq 12, 3) := by decide +kernel
theorem dX8_tidy_84 : decode cX8_tidy 84 = .ok (.aload_n 0, 1) := by decide +kernel
theorem dX8_tidy_85 : decode cX8_tidy 85 = .ok (.getfield 33, 3) := by decide +kernel
theorem dX8_tidy_88 : decode cX8_tidy 88 = .ok (.iconst 2, 1) := by decide +kernel
theorem dX8_tidy_89 : decode cX8_tidy 89 = .ok (.laload, 1) := by decide +kernel
theorem dX8_tidy_90 : decode cX8_tidy 90 = .ok (.goto 29, 3) := by decide +kernel
theorem dX8_tidy_93 : decode cX8_tidy 93 = .ok (.aload_n 0, 1) := by decide +kernel
theorem dX8_tidy_94 : decode cX8_tidy 94 = .ok (.getfield 33, 3) := by decide +kernel
theorem dX8_tidy_97 : decode cX8_tidy 97 = .ok (.iconst 1, 1) := by decide +kernel
theorem dX8_tidy_98 : decode cX8_tidy 98 = .ok (.laload, 1) := by decide +kernel
theorem dX8_tidy_99 : decode cX8_tidy 99 = .ok (.lconst 0, 1) := by decide +kernel
theorem dX8_tidy_100 : decode cX8_tidy 100 = .ok (.lcmp, 1) := by decide +kernel
theorem dX8_tidy_101 : decode cX8_tidy 101 = .ok (.ifCond .eq 12, 3) := by decide +kernel
theorem dX8_tidy_104 : decode cX8_tidy 104 = .ok (.aload_n 0, 1) := by decide +kernel
theorem dX8_tidy_105 : decode cX8_tidy 105 = .ok (.getfield 33, 3) := by decide +kernel
theorem dX8_tidy_108 : decode cX8_tidy 108 = .ok (.iconst 1, 1) := by decide +kernel
theorem dX8_tidy_109 : decode cX8_tidy 109 = .ok (.laload, 1) := by decide +kernel
theorem dX8_tidy_110 : decode cX8_tidy 110 = .ok (.goto 9, 3) := by decide +kernel
theorem dX8_tidy_113 : decode cX8_tidy 113 = .ok (.aload_n 0, 1) := by decide +kernel
theorem dX8_tidy_114 : decode cX8_tidy 114 = .ok (.getfield 33, 3) := by decide +kernel
theorem dX8_tidy_117 : decode cX8_tidy 117 = .ok (.iconst 0, 1) := by decide +kernel
theorem dX8_tidy_118 : decode cX8_tidy 118 = .ok (.laload, 1) := by decide +kernel
theorem dX8_tidy_119 : decode cX8_tidy 119 = .ok (.lstore 6, 2) := by decide +kernel
theorem dX8_tidy_121 : decode cX8_tidy 121 = .ok (.iload_n 1, 1) := by decide +kernel
theorem dX8_tidy_122 : decode cX8_tidy 122 = .ok (.ifCond .eq 8, 3) := by decide +kernel
theorem dX8_tidy_125 : decode cX8_tidy 125 = .ok (.lload 6, 2) := by decide +kernel
theorem dX8_tidy_127 : decode cX8_tidy 127 = .ok (.goto 5, 3) := by decide +kernel
theorem dX8_tidy_130 : decode cX8_tidy 130 = .ok (.lload 4, 2) := by decide +kernel
theorem dX8_tidy_132 : decode cX8_tidy 132 = .ok (.lconst 0, 1) := by decide +kernel
theorem dX8_tidy_133 : decode cX8_tidy 133 = .ok (.lcmp, 1) := by decide +kernel
theorem dX8_tidy_134 : decode cX8_tidy 134 = .ok (.ifCond .ge 8, 3) := by decide +kernel
theorem dX8_tidy_137 : decode cX8_tidy 137 = .ok (.lload_n 2, 1) := by decide +kernel
theorem dX8_tidy_138 : decode cX8_tidy 138 = .ok (.lneg, 1) := by decide +kernel
theorem dX8_tidy_139 : decode cX8_tidy 139 = .ok (.goto 4, 3) := by decide +kernel
theorem dX8_tidy_142 : decode cX8_tidy 142 = .ok (.lload_n 2, 1) := by decide +kernel
theorem dX8_tidy_143 : decode cX8_tidy 143 = .ok (.lstore_n 2, 1) := by decide +kernel
theorem dX8_tidy_144 : decode cX8_tidy 144 = .ok (.iconst 0, 1) := by decide +kernel
theorem dX8_tidy_145 : decode cX8_tidy 145 = .ok (.istore 8, 2) := by decide +kernel
theorem dX8_tidy_147 : decode cX8_tidy 147 = .ok (.iload 8, 2) := by decide +kernel
theorem dX8_tidy_149 : decode cX8_tidy 149 = .ok (.iconst 3, 1) := by decide +kernel
theorem dX8_tidy_150 : decode cX8_tidy 150 = .ok (.if_icmp .ge 20, 3) := by decide +kernel
theorem dX8_tidy_153 : decode cX8_tidy 153 = .ok (.aload_n 0, 1) := by decide +kernel
theorem dX8_tidy_154 : decode cX8_tidy 154 = .ok (.getfield 33, 3) := by decide +kernel
theorem dX8_tidy_157 : decode cX8_tidy 157 = .ok (.iload 8, 2) := by decide +kernel
theorem dX8_tidy_159 : decode cX8_tidy 159 = .ok (.dup2, 1) := by decide +kernel
theorem dX8_tidy_160 : decode cX8_tidy 160 = .ok (.laload, 1) := by decide +kernel
theorem dX8_tidy_161 : decode cX8_tidy 161 = .ok (.lload_n 2, 1) := by decide +kernel
theorem dX8_tidy_162 : decode cX8_tidy 162 = .ok (.ldiv, 1) := by decide +kernel
theorem dX8_tidy_163 : decode cX8_tidy 163 = .ok (.lastore, 1) := by decide +kernel
theorem dX8_tidy_164 : decode cX8_tidy 164 = .ok (.iinc 8 1, 3) := by decide +kernel
theorem dX8_tidy_167 : decode cX8_tidy 167 = .ok (.goto (-20), 3) := by decide +kernel
theorem dX8_tidy_170 : decode cX8_tidy 170 = .ok (.return_, 1) := by decide +kernel
set_option maxRecDepth 20000 in
theorem ggX8_far_X8_in : GoodIn wsX8_far wsX8_in := goodIn_r _ [6] rfl (by decide +kernel)
set_option maxRecDepth 20000 in
theorem gX8_far_X8_in : GoodIn wsX8_far (va_wsS RX8 79 yX8_in wsX8_in) := goodIn_app (goodIn_of _ (by decide +kernel)) ggX8_far_X8_in
set_option maxRecDepth 20000 in
theorem ggX8_far_X8_against : GoodIn wsX8_far wsX8_against := goodIn_r _ [10, 11, 12, 13, 5, 14, 15, 3, 4, 6, 23, 24, 25, 26, 27, 28, 29, 30, 31, 32, 33, 34, 35, 36, 37, 38, 39, 40, 41] rfl (by decide +kernel)
set_option maxRecDepth 20000 in
theorem gX8_far_X8_against : GoodIn wsX8_far (wsV RX8 163 RX8 yX8_against wsX8_against) := goodIn_app (goodIn_of _ (by decide +kernel)) ggX8_far_X8_against
set_option maxRecDepth 20000 in
theorem ggX8_far_X8_degreeOf : GoodIn wsX8_far wsX8_degreeOf := goodIn_r _ [19, 2, 20, 21, 5, 22, 23, 24, 25, 26, 27, 28, 29, 30, 31, 32, 33, 34, 35, 36, 37, 38, 39, 40, 41] rfl (by decide +kernel)
set_option maxRecDepth 20000 in
theorem gX8_far_X8_degreeOf : GoodIn wsX8_far (wsV RX8 111 RX8 yX8_degreeOf wsX8_degreeOf) := goodIn_app (goodIn_of _ (by decide +kernel)) ggX8_far_X8_degreeOf
theorem dX8_far_0 : decode cX8_far 0 = .ok (.iload_n 2, 1) := by decide +kernel
theorem dX8_far_1 : decode cX8_far 1 = .ok (.i2l, 1) := by decide +kernel
theorem dX8_far_2 : decode cX8_far 2 = .ok (.lconst 0, 1) := by decide +kernel
theorem dX8_far_3 : decode cX8_far 3 = .ok (.ldc2_w 166, 3) := by decide +kernel
theorem dX8_far_6 : decode cX8_far 6 = .ok (.invokestatic 79, 3) := by decide +kernel
theorem dX8_far_9 : decode cX8_far 9 = .ok (.ifCond .ne 7, 3) := by decide +kernel
theorem dX8_far_12 : decode cX8_far 12 = .ok (.iconst (-1), 1) := by decide +kernel
theorem dX8_far_13 : decode cX8_far 13 = .ok (.goto 8, 3) := by decide +kernel
theorem dX8_far_16 : decode cX8_far 16 = .ok (.aload_n 0, 1) := by decide +kernel
theorem dX8_far_17 : decode cX8_far 17 = .ok (.iload_n 1, 1) := by decide +kernel
theorem dX8_far_18 : decode cX8_far 18 = .ok (.invokevirtual 163, 3) := by decide +kernel
theorem dX8_far_21 : decode cX8_far 21 = .ok (.istore_n 3, 1) := by decide +kernel
theorem dX8_far_22 : decode cX8_far 22 = .ok (.iload_n 3, 1) := by decide +kernel
theorem dX8_far_23 : decode cX8_far 23 = .ok (.ifCond .ge 9, 3) := by decide +kernel
theorem dX8_far_26 : decode cX8_far 26 = .ok (.iload_n 3, 1) := by decide +kernel
theorem dX8_far_27 : decode cX8_far 27 = .ok (.sipush 1000, 3) := by decide +kernel
theorem dX8_far_30 : decode cX8_far 30 = .ok (.isub, 1) := by decide +kernel
theorem dX8_far_31 : decode cX8_far 31 = .ok (.ireturn, 1) := by decide +kernel
theorem dX8_far_32 : decode cX8_far 32 = .ok (.aload_n 0, 1) := by decide +kernel
theorem dX8_far_33 : decode cX8_far 33 = .ok (.getfield 13, 3) := by decide +kernel
theorem dX8_far_36 : decode cX8_far 36 = .ok (.bipush 12, 2) := by decide +kernel
theorem dX8_far_38 : decode cX8_far 38 = .ok (.iload_n 1, 1) := by decide +kernel
theorem dX8_far_39 : decode cX8_far 39 = .ok (.imul, 1) := by decide +kernel
theorem dX8_far_40 : decode cX8_far 40 = .ok (.iconst 4, 1) := by decide +kernel
theorem dX8_far_41 : decode cX8_far 41 = .ok (.iload_n 2, 1) := by decide +kernel
theorem dX8_far_42 : decode cX8_far 42 = .ok (.imul, 1) := by decide +kernel
theorem dX8_far_43 : decode cX8_far 43 = .ok (.iadd, 1) := by decide +kernel
theorem dX8_far_44 : decode cX8_far 44 = .ok (.aload_n 0, 1) := by decide +kernel
theorem dX8_far_45 : decode cX8_far 45 = .ok (.iload_n 1, 1) := by decide +kernel
theorem dX8_far_46 : decode cX8_far 46 = .ok (.invokevirtual 111, 3) := by decide +kernel
theorem dX8_far_49 : decode cX8_far 49 = .ok (.iadd, 1) := by decide +kernel
theorem dX8_far_50 : decode cX8_far 50 = .ok (.laload, 1) := by decide +kernel
theorem dX8_far_51 : decode cX8_far 51 = .ok (.l2i, 1) := by decide +kernel
theorem dX8_far_52 : decode cX8_far 52 = .ok (.ireturn, 1) := by decide +kernel
theorem dX8_addPair_0 : decode cX8_addPair 0 = .ok (.bipush 12, 2) := by decide +kernel
theorem dX8_addPair_2 : decode cX8_addPair 2 = .ok (.iload_n 1, 1) := by decide +kernel
theorem dX8_addPair_3 : decode cX8_addPair 3 = .ok (.imul, 1) := by decide +kernel
theorem dX8_addPair_4 : decode cX8_addPair 4 = .ok (.istore 5, 2) := by decide +kernel
theorem dX8_addPair_6 : decode cX8_addPair 6 = .ok (.aload_n 0, 1) := by decide +kernel
theorem dX8_addPair_7 : decode cX8_addPair 7 = .ok (.getfield 36, 3) := by decide +kernel
theorem dX8_addPair_10 : decode cX8_addPair 10 = .ok (.iload_n 2, 1) := by decide +kernel
theorem dX8_addPair_11 : decode cX8_addPair 11 = .ok (.dup2, 1) := by decide +kernel
theorem dX8_addPair_12 : decode cX8_addPair 12 = .ok (.laload, 1) := by decide +kernel
theorem dX8_addPair_13 : decode cX8_addPair 13 = .ok (.aload_n 0, 1) := by decide +kernel
theorem dX8_addPair_14 : decode cX8_addPair 14 = .ok (.getfield 13, 3) := by decide +kernel
theorem dX8_addPair_17 : decode cX8_addPair 17 = .ok (.iload 5, 2) := by decide +kernel
theorem dX8_addPair_19 : decode cX8_addPair 19 = .ok (.bipush 8, 2) := by decide +kernel
theorem dX8_addPair_21 : decode cX8_addPair 21 = .ok (.iadd, 1) := by decide +kernel
theorem dX8_addPair_22 : decode cX8_addPair 22 = .ok (.iload 4, 2) := by decide +kernel
theorem dX8_addPair_24 : decode cX8_addPair 24 = .ok (.iadd, 1) := by decide +kernel
theorem dX8_addPair_25 : decode cX8_addPair 25 = .ok (.laload, 1) := by decide +kernel
theorem dX8_addPair_26 : decode cX8_addPair 26 = .ok (.aload_n 0, 1) := by decide +kernel
theorem dX8_addPair_27 : decode cX8_addPair 27 = .ok (.getfield 13, 3) := by decide +kernel
theorem dX8_addPair_30 : decode cX8_addPair 30 = .ok (.iload 5, 2) := by decide +kernel
theorem dX8_addPair_32 : decode cX8_addPair 32 = .ok (.iconst 4, 1) := by decide +kernel
theorem dX8_addPair_33 : decode cX8_addPair 33 = .ok (.iadd, 1) := by decide +kernel
theorem dX8_addPair_34 : decode cX8_addPair 34 = .ok (.iload_n 3, 1) := by decide +kernel
theorem dX8_addPair_35 : decode cX8_addPair 35 = .ok (.iadd, 1) := by decide +kernel
theorem dX8_addPair_36 : decode cX8_addPair 36 = .ok (.laload, 1) := by decide +kernel
theorem dX8_addPair_37 : decode cX8_addPair 37 = .ok (.lmul, 1) := by decide +kernel
theorem dX8_addPair_38 : decode cX8_addPair 38 = .ok (.aload_n 0, 1) := by decide +kernel
theorem dX8_addPair_39 : decode cX8_addPair 39 = .ok (.getfield 13, 3) := by decide +kernel
theorem dX8_addPair_42 : decode cX8_addPair 42 = .ok (.iload 5, 2) := by decide +kernel
theorem dX8_addPair_44 : decode cX8_addPair 44 = .ok (.bipush 8, 2) := by decide +kernel
theorem dX8_addPair_46 : decode cX8_addPair 46 = .ok (.iadd, 1) := by decide +kernel
theorem dX8_addPair_47 : decode cX8_addPair 47 = .ok (.iload_n 3, 1) := by decide +kernel
theorem dX8_addPair_48 : decode cX8_addPair 48 = .ok (.iadd, 1) := by decide +kernel
theorem dX8_addPair_49 : decode cX8_addPair 49 = .ok (.laload, 1) := by decide +kernel
theorem dX8_addPair_50 : decode cX8_addPair 50 = .ok (.aload_n 0, 1) := by decide +kernel
theorem dX8_addPair_51 : decode cX8_addPair 51 = .ok (.getfield 13, 3) := by decide +kernel
theorem dX8_addPair_54 : decode cX8_addPair 54 = .ok (.iload 5, 2) := by decide +kernel
theorem dX8_addPair_56 : decode cX8_addPair 56 = .ok (.iconst 4, 1) := by decide +kernel
theorem dX8_addPair_57 : decode cX8_addPair 57 = .ok (.iadd, 1) := by decide +kernel
theorem dX8_addPair_58 : decode cX8_addPair 58 = .ok (.iload 4, 2) := by decide +kernel
theorem dX8_addPair_60 : decode cX8_addPair 60 = .ok (.iadd, 1) := by decide +kernel
theorem dX8_addPair_61 : decode cX8_addPair 61 = .ok (.laload, 1) := by decide +kernel
theorem dX8_addPair_62 : decode cX8_addPair 62 = .ok (.lmul, 1) := by decide +kernel
theorem dX8_addPair_63 : decode cX8_addPair 63 = .ok (.lsub, 1) := by decide +kernel
theorem dX8_addPair_64 : decode cX8_addPair 64 = .ok (.ladd, 1) := by decide +kernel
theorem dX8_addPair_65 : decode cX8_addPair 65 = .ok (.lastore, 1) := by decide +kernel
theorem dX8_addPair_66 : decode cX8_addPair 66 = .ok (.aload_n 0, 1) := by decide +kernel
theorem dX8_addPair_67 : decode cX8_addPair 67 = .ok (.getfield 36, 3) := by decide +kernel
theorem dX8_addPair_70 : decode cX8_addPair 70 = .ok (.iload_n 2, 1) := by decide +kernel
theorem dX8_addPair_71 : decode cX8_addPair 71 = .ok (.iconst 1, 1) := by decide +kernel
theorem dX8_addPair_72 : decode cX8_addPair 72 = .ok (.iadd, 1) := by decide +kernel
theorem dX8_addPair_73 : decode cX8_addPair 73 = .ok (.dup2, 1) := by decide +kernel
theorem dX8_addPair_74 : decode cX8_addPair 74 = .ok (.laload, 1) := by decide +kernel
theorem dX8_addPair_75 : decode cX8_addPair 75 = .ok (.aload_n 0, 1) := by decide +kernel
theorem dX8_addPair_76 : decode cX8_addPair 76 = .ok (.getfield 13, 3) := by decide +kernel
theorem dX8_addPair_79 : decode cX8_addPair 79 = .ok (.iload 5, 2) := by decide +kernel
theorem dX8_addPair_81 : decode cX8_addPair 81 = .ok (.iload 4, 2) := by decide +kernel
theorem dX8_addPair_83 : decode cX8_addPair 83 = .ok (.iadd, 1) := by decide +kernel
theorem dX8_addPair_84 : decode cX8_addPair 84 = .ok (.laload, 1) := by decide +kernel
theorem dX8_addPair_85 : decode cX8_addPair 85 = .ok (.aload_n 0, 1) := by decide +kernel
theorem dX8_addPair_86 : decode cX8_addPair 86 = .ok (.getfield 13, 3) := by decide +kernel
theorem dX8_addPair_89 : decode cX8_addPair 89 = .ok (.iload 5, 2) := by decide +kernel
theorem dX8_addPair_91 : decode cX8_addPair 91 = .ok (.bipush 8, 2) := by decide +kernel
theorem dX8_addPair_93 : decode cX8_addPair 93 = .ok (.iadd, 1) := by decide +kernel
theorem dX8_addPair_94 : decode cX8_addPair 94 = .ok (.iload_n 3, 1) := by decide +kernel
theorem dX8_addPair_95 : decode cX8_addPair 95 = .ok (.iadd, 1) := by decide +kernel
theorem dX8_addPair_96 : decode cX8_addPair 96 = .ok (.laload, 1) := by decide +kernel
theorem dX8_addPair_97 : decode cX8_addPair 97 = .ok (.lmul, 1) := by decide +kernel
theorem dX8_addPair_98 : decode cX8_addPair 98 = .ok (.aload_n 0, 1) := by decide +kernel
theorem dX8_addPair_99 : decode cX8_addPair 99 = .ok (.getfield 13, 3) := by decide +kernel
theorem dX8_addPair_102 : decode cX8_addPair 102 = .ok (.iload 5, 2) := by decide +kernel
theorem dX8_addPair_104 : decode cX8_addPair 104 = .ok (.iload_n 3, 1) := by decide +kernel
theorem dX8_addPair_105 : decode cX8_addPair 105 = .ok (.iadd, 1) := by decide +kernel
theorem dX8_addPair_106 : decode cX8_addPair 106 = .ok (.laload, 1) := by decide +kernel
theorem dX8_addPair_107 : decode cX8_addPair 107 = .ok (.aload_n 0, 1) := by decide +kernel
theorem dX8_addPair_108 : decode cX8_addPair 108 = .ok (.getfield 13, 3) := by decide +kernel
theorem dX8_addPair_111 : decode cX8_addPair 111 = .ok (.iload 5, 2) := by decide +kernel
theorem dX8_addPair_113 : decode cX8_addPair 113 = .ok (.bipush 8, 2) := by decide +kernel
theorem dX8_addPair_115 : decode cX8_addPair 115 = .ok (.iadd, 1) := by decide +kernel
theorem dX8_addPair_116 : decode cX8_addPair 116 = .ok (.iload 4, 2) := by decide +kernel
theorem dX8_addPair_118 : decode cX8_addPair 118 = .ok (.iadd, 1) := by decide +kernel
theorem dX8_addPair_119 : decode cX8_addPair 119 = .ok (.laload, 1) := by decide +kernel
theorem dX8_addPair_120 : decode cX8_addPair 120 = .ok (.lmul, 1) := by decide +kernel
theorem dX8_addPair_121 : decode cX8_addPair 121 = .ok (.lsub, 1) := by decide +kernel
theorem dX8_addPair_122 : decode cX8_addPair 122 = .ok (.ladd, 1) := by decide +kernel
theorem dX8_addPair_123 : decode cX8_addPair 123 = .ok (.lastore, 1) := by decide +kernel
theorem dX8_addPair_124 : decode cX8_addPair 124 = .ok (.aload_n 0, 1) := by decide +kernel
theorem dX8_addPair_125 : decode cX8_addPair 125 = .ok (.getfield 36, 3) := by decide +kernel
theorem dX8_addPair_128 : decode cX8_addPair 128 = .ok (.iload_n 2, 1) := by decide +kernel
theorem dX8_addPair_129 : decode cX8_addPair 129 = .ok (.iconst 2, 1) := by decide +kernel
theorem dX8_addPair_130 : decode cX8_addPair 130 = .ok (.iadd, 1) := by decide +kernel
theorem dX8_addPair_131 : decode cX8_addPair 131 = .ok (.dup2, 1) := by decide +kernel
theorem dX8_addPair_132 : decode cX8_addPair 132 = .ok (.laload, 1) := by decide +kernel
theorem dX8_addPair_133 : decode cX8_addPair 133 = .ok (.aload_n 0, 1) := by decide +kernel
theorem dX8_addPair_134 : decode cX8_addPair 134 = .ok (.getfield 13, 3) := by decide +kernel
theorem dX8_addPair_137 : decode cX8_addPair 137 = .ok (.iload 5, 2) := by decide +kernel
theorem dX8_addPair_139 : decode cX8_addPair 139 = .ok (.iload_n 3, 1) := by decide +kernel
theorem dX8_addPair_140 : decode cX8_addPair 140 = .ok (.iadd, 1) := by decide +kernel
theorem dX8_addPair_141 : decode cX8_addPair 141 = .ok (.laload, 1) := by decide +kernel
theorem dX8_addPair_142 : decode cX8_addPair 142 = .ok (.aload_n 0, 1) := by decide +kernel
theorem dX8_addPair_143 : decode cX8_addPair 143 = .ok (.getfield 13, 3) := by decide +kernel
theorem dX8_addPair_146 : decode cX8_addPair 146 = .ok (.iload 5, 2) := by decide +kernel
theorem dX8_addPair_148 : decode cX8_addPair 148 = .ok (.iconst 4, 1) := by decide +kernel
theorem dX8_addPair_149 : decode cX8_addPair 149 = .ok (.iadd, 1) := by decide +kernel
theorem dX8_addPair_150 : decode cX8_addPair 150 = .ok (.iload 4, 2) := by decide +kernel
theorem dX8_addPair_152 : decode cX8_addPair 152 = .ok (.iadd, 1) := by decide +kernel
theorem dX8_addPair_153 : decode cX8_addPair 153 = .ok (.laload, 1) := by decide +kernel
theorem dX8_addPair_154 : decode cX8_addPair 154 = .ok (.lmul, 1) := by decide +kernel
theorem dX8_addPair_155 : decode cX8_addPair 155 = .ok (.aload_n 0, 1) := by decide +kernel
theorem dX8_addPair_156 : decode cX8_addPair 156 = .ok (.getfield 13, 3) := by decide +kernel
theorem dX8_addPair_159 : decode cX8_addPair 159 = .ok (.iload 5, 2) := by decide +kernel
theorem dX8_addPair_161 : decode cX8_addPair 161 = .ok (.iload 4, 2) := by decide +kernel
theorem dX8_addPair_163 : decode cX8_addPair 163 = .ok (.iadd, 1) := by decide +kernel
theorem dX8_addPair_164 : decode cX8_addPair 164 = .ok (.laload, 1) := by decide +kernel
theorem dX8_addPair_165 : decode cX8_addPair 165 = .ok (.aload_n 0, 1) := by decide +kernel
theorem dX8_addPair_166 : decode cX8_addPair 166 = .ok (.getfield 13, 3) := by decide +kernel
theorem dX8_addPair_169 : decode cX8_addPair 169 = .ok (.iload 5, 2) := by decide +kernel
theorem dX8_addPair_171 : decode cX8_addPair 171 = .ok (.iconst 4, 1) := by decide +kernel
theorem dX8_addPair_172 : decode cX8_addPair 172 = .ok (.iadd, 1) := by decide +kernel
theorem dX8_addPair_173 : decode cX8_addPair 173 = .ok (.iload_n 3, 1) := by decide +kernel
theorem dX8_addPair_174 : decode cX8_addPair 174 = .ok (.iadd, 1) := by decide +kernel
theorem dX8_addPair_175 : decode cX8_addPair 175 = .ok (.laload, 1) := by decide +kernel
theorem dX8_addPair_176 : decode cX8_addPair 176 = .ok (.lmul, 1) := by decide +kernel
theorem dX8_addPair_177 : decode cX8_addPair 177 = .ok (.lsub, 1) := by decide +kernel
theorem dX8_addPair_178 : decode cX8_addPair 178 = .ok (.ladd, 1) := by decide +kernel
theorem dX8_addPair_179 : decode cX8_addPair 179 = .ok (.lastore, 1) := by decide +kernel
theorem dX8_addPair_180 : decode cX8_addPair 180 = .ok (.return_, 1) := by decide +kernel
theorem dX8_placeOf_0 : decode cX8_placeOf 0 = .ok (.iload_n 0, 1) := by decide +kernel
theorem dX8_placeOf_1 : decode cX8_placeOf 1 = .ok (.iload_n 1, 1) := by decide +kernel
theorem dX8_placeOf_2 : decode cX8_placeOf 2 = .ok (.iadd, 1) := by decide +kernel
theorem dX8_placeOf_3 : decode cX8_placeOf 3 = .ok (.istore_n 2, 1) := by decide +kernel
theorem dX8_placeOf_4 : decode cX8_placeOf 4 = .ok (.iload_n 2, 1) := by decide +kernel
theorem dX8_placeOf_5 : decode cX8_placeOf 5 = .ok (.iconst 3, 1) := by decide +kernel
theorem dX8_placeOf_6 : decode cX8_placeOf 6 = .ok (.if_icmp .ne 7, 3) := by decide +kernel
theorem dX8_placeOf_9 : decode cX8_placeOf 9 = .ok (.iload_n 1, 1) := by decide +kernel
theorem dX8_placeOf_10 : decode cX8_placeOf 10 = .ok (.goto 28, 3) := by decide +kernel
theorem dX8_placeOf_13 : decode cX8_placeOf 13 = .ok (.iload_n 2, 1) := by decide +kernel
theorem dX8_placeOf_14 : decode cX8_placeOf 14 = .ok (.iconst 2, 1) := by decide +kernel
theorem dX8_placeOf_15 : decode cX8_placeOf 15 = .ok (.if_icmp .ne 9, 3) := by decide +kernel
theorem dX8_placeOf_18 : decode cX8_placeOf 18 = .ok (.iconst 4, 1) := by decide +kernel
theorem dX8_placeOf_19 : decode cX8_placeOf 19 = .ok (.iload_n 1, 1) := by decide +kernel
theorem dX8_placeOf_20 : decode cX8_placeOf 20 = .ok (.iadd, 1) := by decide +kernel
theorem dX8_placeOf_21 : decode cX8_placeOf 21 = .ok (.goto 17, 3) := by decide +kernel
theorem dX8_placeOf_24 : decode cX8_placeOf 24 = .ok (.iload_n 2, 1) := by decide +kernel
theorem dX8_placeOf_25 : decode cX8_placeOf 25 = .ok (.iconst 1, 1) := by decide +kernel
theorem dX8_placeOf_26 : decode cX8_placeOf 26 = .ok (.if_icmp .ne 10, 3) := by decide +kernel
theorem dX8_placeOf_29 : decode cX8_placeOf 29 = .ok (.bipush 7, 2) := by decide +kernel
theorem dX8_placeOf_31 : decode cX8_placeOf 31 = .ok (.iload_n 1, 1) := by decide +kernel
theorem dX8_placeOf_32 : decode cX8_placeOf 32 = .ok (.iadd, 1) := by decide +kernel
theorem dX8_placeOf_33 : decode cX8_placeOf 33 = .ok (.goto 5, 3) := by decide +kernel
theorem dX8_placeOf_36 : decode cX8_placeOf 36 = .ok (.bipush 9, 2) := by decide +kernel
theorem dX8_placeOf_38 : decode cX8_placeOf 38 = .ok (.ireturn, 1) := by decide +kernel
set_option maxRecDepth 20000 in
theorem ggX8_addProduct_X8_placeOf : GoodIn wsX8_addProduct wsX8_placeOf := goodIn_r _ [6] rfl (by decide +kernel)
set_option maxRecDepth 20000 in
theorem gX8_addProduct_X8_placeOf : GoodIn wsX8_addProduct (va_wsS RX8 183 yX8_placeOf wsX8_placeOf) := goodIn_app (goodIn_of _ (by decide +kernel)) ggX8_addProduct_X8_placeOf
theorem dX8_addProduct_0 : decode cX8_addProduct 0 = .ok (.iconst 0, 1) := by decide +kernel
theorem dX8_addProduct_1 : decode cX8_addProduct 1 = .ok (.istore 6, 2) := by decide +kernel
theorem dX8_addProduct_3 : decode cX8_addProduct 3 = .ok (.iload 6, 2) := by decide +kernel
theorem dX8_addProduct_5 : decode cX8_addProduct 5 = .ok (.iconst 3, 1) := by decide +kernel
theorem dX8_addProduct_6 : decode cX8_addProduct 6 = .ok (.if_icmp .ge 177, 3) := by decide +kernel
theorem dX8_addProduct_9 : decode cX8_addProduct 9 = .ok (.iconst 0, 1) := by decide +kernel
theorem dX8_addProduct_10 : decode cX8_addProduct 10 = .ok (.istore 7, 2) := by decide +kernel
theorem dX8_addProduct_12 : decode cX8_addProduct 12 = .ok (.iload 7, 2) := by decide +kernel
theorem dX8_addProduct_14 : decode cX8_addProduct 14 = .ok (.iconst 3, 1) := by decide +kernel
theorem dX8_addProduct_15 : decode cX8_addProduct 15 = .ok (.if_icmp .ge 162, 3) := by decide +kernel
theorem dX8_addProduct_18 : decode cX8_addProduct 18 = .ok (.iload_n 3, 1) := by decide +kernel
theorem dX8_addProduct_19 : decode cX8_addProduct 19 = .ok (.ifCond .ge 7, 3) := by decide +kernel
theorem dX8_addProduct_22 : decode cX8_addProduct 22 = .ok (.iconst 2, 1) := by decide +kernel
theorem dX8_addProduct_23 : decode cX8_addProduct 23 = .ok (.goto 4, 3) := by decide +kernel
theorem dX8_addProduct_26 : decode cX8_addProduct 26 = .ok (.iconst 0, 1) := by decide +kernel
theorem dX8_addProduct_27 : decode cX8_addProduct 27 = .ok (.istore 8, 2) := by decide +kernel
theorem dX8_addProduct_29 : decode cX8_addProduct 29 = .ok (.iload 8, 2) := by decide +kernel
theorem dX8_addProduct_31 : decode cX8_addProduct 31 = .ok (.iconst 3, 1) := by decide +kernel
theorem dX8_addProduct_32 : decode cX8_addProduct 32 = .ok (.if_icmp .ge 139, 3) := by decide +kernel
theorem dX8_addProduct_35 : decode cX8_addProduct 35 = .ok (.iload 6, 2) := by decide +kernel
theorem dX8_addProduct_37 : decode cX8_addProduct 37 = .ok (.ifCond .ne 7, 3) := by decide +kernel
theorem dX8_addProduct_40 : decode cX8_addProduct 40 = .ok (.iconst 1, 1) := by decide +kernel
theorem dX8_addProduct_41 : decode cX8_addProduct 41 = .ok (.goto 4, 3) := by decide +kernel
theorem dX8_addProduct_44 : decode cX8_addProduct 44 = .ok (.iconst 0, 1) := by decide +kernel
theorem dX8_addProduct_45 : decode cX8_addProduct 45 = .ok (.iload 7, 2) := by decide +kernel
theorem dX8_addProduct_47 : decode cX8_addProduct 47 = .ok (.ifCond .ne 7, 3) := by decide +kernel
theorem dX8_addProduct_50 : decode cX8_addProduct 50 = .ok (.iconst 1, 1) := by decide +kernel
theorem dX8_addProduct_51 : decode cX8_addProduct 51 = .ok (.goto 4, 3) := by decide +kernel
theorem dX8_addProduct_54 : decode cX8_addProduct 54 = .ok (.iconst 0, 1) := by decide +kernel
theorem dX8_addProduct_55 : decode cX8_addProduct 55 = .ok (.iadd, 1) := by decide +kernel
theorem dX8_addProduct_56 : decode cX8_addProduct 56 = .ok (.iload 8, 2) := by decide +kernel
theorem dX8_addProduct_58 : decode cX8_addProduct 58 = .ok (.ifCond .ne 7, 3) := by decide +kernel
theorem dX8_addProduct_61 : decode cX8_addProduct 61 = .ok (.iconst 1, 1) := by decide +kernel
theorem dX8_addProduct_62 : decode cX8_addProduct 62 = .ok (.goto 4, 3) := by decide +kernel
theorem dX8_addProduct_65 : decode cX8_addProduct 65 = .ok (.iconst 0, 1) := by decide +kernel
theorem dX8_addProduct_66 : decode cX8_addProduct 66 = .ok (.iadd, 1) := by decide +kernel
theorem dX8_addProduct_67 : decode cX8_addProduct 67 = .ok (.istore 9, 2) := by decide +kernel
theorem dX8_addProduct_69 : decode cX8_addProduct 69 = .ok (.iload 6, 2) := by decide +kernel
theorem dX8_addProduct_71 : decode cX8_addProduct 71 = .ok (.iconst 1, 1) := by decide +kernel
theorem dX8_addProduct_72 : decode cX8_addProduct 72 = .ok (.if_icmp .ne 7, 3) := by decide +kernel
theorem dX8_addProduct_75 : decode cX8_addProduct 75 = .ok (.iconst 1, 1) := by decide +kernel
theorem dX8_addProduct_76 : decode cX8_addProduct 76 = .ok (.goto 4, 3) := by decide +kernel
theorem dX8_addProduct_79 : decode cX8_addProduct 79 = .ok (.iconst 0, 1) := by decide +kernel
theorem dX8_addProduct_80 : decode cX8_addProduct 80 = .ok (.iload 7, 2) := by decide +kernel
theorem dX8_addProduct_82 : decode cX8_addProduct 82 = .ok (.iconst 1, 1) := by decide +kernel
theorem dX8_addProduct_83 : decode cX8_addProduct 83 = .ok (.if_icmp .ne 7, 3) := by decide +kernel
theorem dX8_addProduct_86 : decode cX8_addProduct 86 = .ok (.iconst 1, 1) := by decide +kernel
theorem dX8_addProduct_87 : decode cX8_addProduct 87 = .ok (.goto 4, 3) := by decide +kernel
theorem dX8_addProduct_90 : decode cX8_addProduct 90 = .ok (.iconst 0, 1) := by decide +kernel
theorem dX8_addProduct_91 : decode cX8_addProduct 91 = .ok (.iadd, 1) := by decide +kernel
theorem dX8_addProduct_92 : decode cX8_addProduct 92 = .ok (.iload 8, 2) := by decide +kernel
theorem dX8_addProduct_94 : decode cX8_addProduct 94 = .ok (.iconst 1, 1) := by decide +kernel
theorem dX8_addProduct_95 : decode cX8_addProduct 95 = .ok (.if_icmp .ne 7, 3) := by decide +kernel
theorem dX8_addProduct_98 : decode cX8_addProduct 98 = .ok (.iconst 1, 1) := by decide +kernel
theorem dX8_addProduct_99 : decode cX8_addProduct 99 = .ok (.goto 4, 3) := by decide +kernel
theorem dX8_addProduct_102 : decode cX8_addProduct 102 = .ok (.iconst 0, 1) := by decide +kernel
theorem dX8_addProduct_103 : decode cX8_addProduct 103 = .ok (.iadd, 1) := by decide +kernel
theorem dX8_addProduct_104 : decode cX8_addProduct 104 = .ok (.istore 10, 2) := by decide +kernel
theorem dX8_addProduct_106 : decode cX8_addProduct 106 = .ok (.iload_n 3, 1) := by decide +kernel
theorem dX8_addProduct_107 : decode cX8_addProduct 107 = .ok (.ifCond .ge 7, 3) := by decide +kernel
theorem dX8_addProduct_110 : decode cX8_addProduct 110 = .ok (.lconst 1, 1) := by decide +kernel
theorem dX8_addProduct_111 : decode cX8_addProduct 111 = .ok (.goto 12, 3) := by decide +kernel
theorem dX8_addProduct_114 : decode cX8_addProduct 114 = .ok (.aload_n 0, 1) := by decide +kernel
theorem dX8_addProduct_115 : decode cX8_addProduct 115 = .ok (.getfield 36, 3) := by decide +kernel
theorem dX8_addProduct_118 : decode cX8_addProduct 118 = .ok (.iload_n 3, 1) := by decide +kernel
theorem dX8_addProduct_119 : decode cX8_addProduct 119 = .ok (.iload 8, 2) := by decide +kernel
theorem dX8_addProduct_121 : decode cX8_addProduct 121 = .ok (.iadd, 1) := by decide +kernel
theorem dX8_addProduct_122 : decode cX8_addProduct 122 = .ok (.laload, 1) := by decide +kernel
theorem dX8_addProduct_123 : decode cX8_addProduct 123 = .ok (.lstore 11, 2) := by decide +kernel
theorem dX8_addProduct_125 : decode cX8_addProduct 125 = .ok (.aload_n 0, 1) := by decide +kernel
theorem dX8_addProduct_126 : decode cX8_addProduct 126 = .ok (.getfield 39, 3) := by decide +kernel
theorem dX8_addProduct_129 : decode cX8_addProduct 129 = .ok (.iload 9, 2) := by decide +kernel
theorem dX8_addProduct_131 : decode cX8_addProduct 131 = .ok (.iload 10, 2) := by decide +kernel
theorem dX8_addProduct_133 : decode cX8_addProduct 133 = .ok (.invokestatic 183, 3) := by decide +kernel
theorem dX8_addProduct_136 : decode cX8_addProduct 136 = .ok (.dup2, 1) := by decide +kernel
theorem dX8_addProduct_137 : decode cX8_addProduct 137 = .ok (.laload, 1) := by decide +kernel
theorem dX8_addProduct_138 : decode cX8_addProduct 138 = .ok (.lload 4, 2) := by decide +kernel
theorem dX8_addProduct_140 : decode cX8_addProduct 140 = .ok (.aload_n 0, 1) := by decide +kernel
theorem dX8_addProduct_141 : decode cX8_addProduct 141 = .ok (.getfield 36, 3) := by decide +kernel
theorem dX8_addProduct_144 : decode cX8_addProduct 144 = .ok (.iload_n 1, 1) := by decide +kernel
theorem dX8_addProduct_145 : decode cX8_addProduct 145 = .ok (.iload 6, 2) := by decide +kernel
theorem dX8_addProduct_147 : decode cX8_addProduct 147 = .ok (.iadd, 1) := by decide +kernel
theorem dX8_addProduct_148 : decode cX8_addProduct 148 = .ok (.laload, 1) := by decide +kernel
theorem dX8_addProduct_149 : decode cX8_addProduct 149 = .ok (.lmul, 1) := by decide +kernel
theorem dX8_addProduct_150 : decode cX8_addProduct 150 = .ok (.aload_n 0, 1) := by decide +kernel
theorem dX8_addProduct_151 : decode cX8_addProduct 151 = .ok (.getfield 36, 3) := by decide +kernel
theorem dX8_addProduct_154 : decode cX8_addProduct 154 = .ok (.iload_n 2, 1) := by decide +kernel
theorem dX8_addProduct_155 : decode cX8_addProduct 155 = .ok (.iload 7, 2) := by decide +kernel
theorem dX8_addProduct_157 : decode cX8_addProduct 157 = .ok (.iadd, 1) := by decide +kernel
theorem dX8_addProduct_158 : decode cX8_addProduct 158 = .ok (.laload, 1) := by decide +kernel
theorem dX8_addProduct_159 : decode cX8_addProduct 159 = .ok (.lmul, 1) := by decide +kernel
theorem dX8_addProduct_160 : decode cX8_addProduct 160 = .ok (.lload 11, 2) := by decide +kernel
theorem dX8_addProduct_162 : decode cX8_addProduct 162 = .ok (.lmul, 1) := by decide +kernel
theorem dX8_addProduct_163 : decode cX8_addProduct 163 = .ok (.ladd, 1) := by decide +kernel
theorem dX8_addProduct_164 : decode cX8_addProduct 164 = .ok (.lastore, 1) := by decide +kernel
theorem dX8_addProduct_165 : decode cX8_addProduct 165 = .ok (.iinc 8 1, 3) := by decide +kernel
theorem dX8_addProduct_168 : decode cX8_addProduct 168 = .ok (.goto (-139), 3) := by decide +kernel
theorem dX8_addProduct_171 : decode cX8_addProduct 171 = .ok (.iinc 7 1, 3) := by decide +kernel
theorem dX8_addProduct_174 : decode cX8_addProduct 174 = .ok (.goto (-162), 3) := by decide +kernel
theorem dX8_addProduct_177 : decode cX8_addProduct 177 = .ok (.iinc 6 1, 3) := by decide +kernel
theorem dX8_addProduct_180 : decode cX8_addProduct 180 = .ok (.goto (-177), 3) := by decide +kernel
theorem dX8_addProduct_183 : decode cX8_addProduct 183 = .ok (.return_, 1) := by decide +kernel
set_option maxRecDepth 20000 in
theorem ggX8_findEquation_X8_kindOf : GoodIn wsX8_findEquation wsX8_kindOf := goodIn_r _ [10, 11, 12, 13, 9, 14, 15, 16, 17, 18, 19, 20, 21, 22, 3, 23, 24, 25, 26, 27, 28, 29, 30, 45, 46, 47, 48, 49, 50, 51, 52, 53, 54, 55, 56, 57, 58, 59, 60, 61, 62, 63] rfl (by decide +kernel)
set_option maxRecDepth 20000 in
theorem gX8_findEquation_X8_kindOf : GoodIn wsX8_findEquation (wsV RX8 103 RX8 yX8_kindOf wsX8_kindOf) := goodIn_app (goodIn_of _ (by decide +kernel)) ggX8_findEquation_X8_kindOf
set_option maxRecDepth 20000 in
theorem ggX8_findEquation_X8_addPair : GoodIn wsX8_findEquation wsX8_addPair := goodIn_r _ [34, 2, 15, 45, 46, 47, 48, 49, 50, 51, 52, 53, 54, 55, 56, 57, 58, 59, 60, 61, 62, 63] rfl (by decide +kernel)
set_option maxRecDepth 20000 in
theorem gX8_findEquation_X8_addPair : GoodIn wsX8_findEquation (wsV RX8 187 RX8 yX8_addPair wsX8_addPair) := goodIn_app (goodIn_of _ (by decide +kernel)) ggX8_findEquation_X8_addPair
set_option maxRecDepth 20000 in
theorem ggX8_findEquation_X8_addProduct : GoodIn wsX8_findEquation wsX8_addProduct := goodIn_r _ [38, 2, 1, 39, 40, 9, 41, 45, 46, 47, 48, 49, 50, 51, 52, 53, 54, 55, 56, 57, 58, 59, 60, 61, 62, 63] rfl (by decide +kernel)
set_option maxRecDepth 20000 in
theorem gX8_findEquation_X8_addProduct : GoodIn wsX8_findEquation (wsV RX8 191 RX8 yX8_addProduct wsX8_addProduct) := goodIn_app (goodIn_of _ (by decide +kernel)) ggX8_findEquation_X8_addProduct
set_option maxRecDepth 20000 in
theorem ggX8_findEquation_X8_common : GoodIn wsX8_findEquation wsX8_common := goodIn_r _ [44] rfl (by decide +kernel)
set_option maxRecDepth 20000 in
theorem gX8_findEquation_X8_common : GoodIn wsX8_findEquation (va_wsS RX8 63 yX8_common wsX8_common) := goodIn_app (goodIn_of _ (by decide +kernel)) ggX8_findEquation_X8_common
theorem dX8_findEquation_0 : decode cX8_findEquation 0 = .ok (.iconst 0, 1) := by decide +kernel
theorem dX8_findEquation_1 : decode cX8_findEquation 1 = .ok (.istore_n 2, 1) := by decide +kernel
theorem dX8_findEquation_2 : decode cX8_findEquation 2 = .ok (.iload_n 2, 1) := by decide +kernel
theorem dX8_findEquation_3 : decode cX8_findEquation 3 = .ok (.bipush 10, 2) := by decide +kernel
theorem dX8_findEquation_5 : decode cX8_findEquation 5 = .ok (.if_icmp .ge 16, 3) := by decide +kernel
theorem dX8_findEquation_8 : decode cX8_findEquation 8 = .ok (.aload_n 0, 1) := by decide +kernel
theorem dX8_findEquation_9 : decode cX8_findEquation 9 = .ok (.getfield 39, 3) := by decide +kernel
theorem dX8_findEquation_12 : decode cX8_findEquation 12 = .ok (.iload_n 2, 1) := by decide +kernel
theorem dX8_findEquation_13 : decode cX8_findEquation 13 = .ok (.lconst 0, 1) := by decide +kernel
theorem dX8_findEquation_14 : decode cX8_findEquation 14 = .ok (.lastore, 1) := by decide +kernel
theorem dX8_findEquation_15 : decode cX8_findEquation 15 = .ok (.iinc 2 1, 3) := by decide +kernel
theorem dX8_findEquation_18 : decode cX8_findEquation 18 = .ok (.goto (-16), 3) := by decide +kernel
theorem dX8_findEquation_21 : decode cX8_findEquation 21 = .ok (.iconst 0, 1) := by decide +kernel
theorem dX8_findEquation_22 : decode cX8_findEquation 22 = .ok (.istore_n 2, 1) := by decide +kernel
theorem dX8_findEquation_23 : decode cX8_findEquation 23 = .ok (.iload_n 2, 1) := by decide +kernel
theorem dX8_findEquation_24 : decode cX8_findEquation 24 = .ok (.bipush 27, 2) := by decide +kernel
theorem dX8_findEquation_26 : decode cX8_findEquation 26 = .ok (.if_icmp .ge 16, 3) := by decide +kernel
theorem dX8_findEquation_29 : decode cX8_findEquation 29 = .ok (.aload_n 0, 1) := by decide +kernel
theorem dX8_findEquation_30 : decode cX8_findEquation 30 = .ok (.getfield 36, 3) := by decide +kernel
theorem dX8_findEquation_33 : decode cX8_findEquation 33 = .ok (.iload_n 2, 1) := by decide +kernel
theorem dX8_findEquation_34 : decode cX8_findEquation 34 = .ok (.lconst 0, 1) := by decide +kernel
theorem dX8_findEquation_35 : decode cX8_findEquation 35 = .ok (.lastore, 1) := by decide +kernel
theorem dX8_findEquation_36 : decode cX8_findEquation 36 = .ok (.iinc 2 1, 3) := by decide +kernel
theorem dX8_findEquation_39 : decode cX8_findEquation 39 = .ok (.goto (-16), 3) := by decide +kernel
theorem dX8_findEquation_42 : decode cX8_findEquation 42 = .ok (.aload_n 0, 1) := by decide +kernel
theorem dX8_findEquation_43 : decode cX8_findEquation 43 = .ok (.iload_n 1, 1) := by decide +kernel
theorem dX8_findEquation_44 : decode cX8_findEquation 44 = .ok (.invokevirtual 103, 3) := by decide +kernel
theorem dX8_findEquation_47 : decode cX8_findEquation 47 = .ok (.istore_n 2, 1) := by decide +kernel
theorem dX8_findEquation_48 : decode cX8_findEquation 48 = .ok (.iload_n 2, 1) := by decide +kernel
theorem dX8_findEquation_49 : decode cX8_findEquation 49 = .ok (.iconst 1, 1) := by decide +kernel
theorem dX8_findEquation_50 : decode cX8_findEquation 50 = .ok (.if_icmp .ne 45, 3) := by decide +kernel
theorem dX8_findEquation_53 : decode cX8_findEquation 53 = .ok (.aload_n 0, 1) := by decide +kernel
theorem dX8_findEquation_54 : decode cX8_findEquation 54 = .ok (.getfield 39, 3) := by decide +kernel
theorem dX8_findEquation_57 : decode cX8_findEquation 57 = .ok (.bipush 7, 2) := by decide +kernel
theorem dX8_findEquation_59 : decode cX8_findEquation 59 = .ok (.aload_n 0, 1) := by decide +kernel
theorem dX8_findEquation_60 : decode cX8_findEquation 60 = .ok (.getfield 26, 3) := by decide +kernel
theorem dX8_findEquation_63 : decode cX8_findEquation 63 = .ok (.iconst 0, 1) := by decide +kernel
theorem dX8_findEquation_64 : decode cX8_findEquation 64 = .ok (.laload, 1) := by decide +kernel
theorem dX8_findEquation_65 : decode cX8_findEquation 65 = .ok (.lastore, 1) := by decide +kernel
theorem dX8_findEquation_66 : decode cX8_findEquation 66 = .ok (.aload_n 0, 1) := by decide +kernel
theorem dX8_findEquation_67 : decode cX8_findEquation 67 = .ok (.getfield 39, 3) := by decide +kernel
theorem dX8_findEquation_70 : decode cX8_findEquation 70 = .ok (.bipush 8, 2) := by decide +kernel
theorem dX8_findEquation_72 : decode cX8_findEquation 72 = .ok (.aload_n 0, 1) := by decide +kernel
theorem dX8_findEquation_73 : decode cX8_findEquation 73 = .ok (.getfield 26, 3) := by decide +kernel
theorem dX8_findEquation_76 : decode cX8_findEquation 76 = .ok (.iconst 1, 1) := by decide +kernel
theorem dX8_findEquation_77 : decode cX8_findEquation 77 = .ok (.laload, 1) := by decide +kernel
theorem dX8_findEquation_78 : decode cX8_findEquation 78 = .ok (.lastore, 1) := by decide +kernel
theorem dX8_findEquation_79 : decode cX8_findEquation 79 = .ok (.aload_n 0, 1) := by decide +kernel
theorem dX8_findEquation_80 : decode cX8_findEquation 80 = .ok (.getfield 39, 3) := by decide +kernel
theorem dX8_findEquation_83 : decode cX8_findEquation 83 = .ok (.bipush 9, 2) := by decide +kernel
theorem dX8_findEquation_85 : decode cX8_findEquation 85 = .ok (.aload_n 0, 1) := by decide +kernel
theorem dX8_findEquation_86 : decode cX8_findEquation 86 = .ok (.getfield 26, 3) := by decide +kernel
theorem dX8_findEquation_89 : decode cX8_findEquation 89 = .ok (.iconst 2, 1) := by decide +kernel
theorem dX8_findEquation_90 : decode cX8_findEquation 90 = .ok (.laload, 1) := by decide +kernel
theorem dX8_findEquation_91 : decode cX8_findEquation 91 = .ok (.lastore, 1) := by decide +kernel
theorem dX8_findEquation_92 : decode cX8_findEquation 92 = .ok (.goto 174, 3) := by decide +kernel
theorem dX8_findEquation_95 : decode cX8_findEquation 95 = .ok (.iload_n 2, 1) := by decide +kernel
theorem dX8_findEquation_96 : decode cX8_findEquation 96 = .ok (.iconst 2, 1) := by decide +kernel
theorem dX8_findEquation_97 : decode cX8_findEquation 97 = .ok (.if_icmp .ne 50, 3) := by decide +kernel
theorem dX8_findEquation_100 : decode cX8_findEquation 100 = .ok (.aload_n 0, 1) := by decide +kernel
theorem dX8_findEquation_101 : decode cX8_findEquation 101 = .ok (.iload_n 1, 1) := by decide +kernel
theorem dX8_findEquation_102 : decode cX8_findEquation 102 = .ok (.iconst 0, 1) := by decide +kernel
theorem dX8_findEquation_103 : decode cX8_findEquation 103 = .ok (.iconst 1, 1) := by decide +kernel
theorem dX8_findEquation_104 : decode cX8_findEquation 104 = .ok (.iconst 0, 1) := by decide +kernel
theorem dX8_findEquation_105 : decode cX8_findEquation 105 = .ok (.invokevirtual 187, 3) := by decide +kernel
theorem dX8_findEquation_108 : decode cX8_findEquation 108 = .ok (.aload_n 0, 1) := by decide +kernel
theorem dX8_findEquation_109 : decode cX8_findEquation 109 = .ok (.iload_n 1, 1) := by decide +kernel
theorem dX8_findEquation_110 : decode cX8_findEquation 110 = .ok (.iconst 3, 1) := by decide +kernel
theorem dX8_findEquation_111 : decode cX8_findEquation 111 = .ok (.iconst 2, 1) := by decide +kernel
theorem dX8_findEquation_112 : decode cX8_findEquation 112 = .ok (.iconst 0, 1) := by decide +kernel
theorem dX8_findEquation_113 : decode cX8_findEquation 113 = .ok (.invokevirtual 187, 3) := by decide +kernel
theorem dX8_findEquation_116 : decode cX8_findEquation 116 = .ok (.aload_n 0, 1) := by decide +kernel
theorem dX8_findEquation_117 : decode cX8_findEquation 117 = .ok (.iload_n 1, 1) := by decide +kernel
theorem dX8_findEquation_118 : decode cX8_findEquation 118 = .ok (.bipush 6, 2) := by decide +kernel
theorem dX8_findEquation_120 : decode cX8_findEquation 120 = .ok (.iconst 2, 1) := by decide +kernel
theorem dX8_findEquation_121 : decode cX8_findEquation 121 = .ok (.iconst 1, 1) := by decide +kernel
theorem dX8_findEquation_122 : decode cX8_findEquation 122 = .ok (.invokevirtual 187, 3) := by decide +kernel
theorem dX8_findEquation_125 : decode cX8_findEquation 125 = .ok (.aload_n 0, 1) := by decide +kernel
theorem dX8_findEquation_126 : decode cX8_findEquation 126 = .ok (.iconst 0, 1) := by decide +kernel
theorem dX8_findEquation_127 : decode cX8_findEquation 127 = .ok (.bipush 6, 2) := by decide +kernel
theorem dX8_findEquation_129 : decode cX8_findEquation 129 = .ok (.iconst (-1), 1) := by decide +kernel
theorem dX8_findEquation_130 : decode cX8_findEquation 130 = .ok (.lconst 1, 1) := by decide +kernel
theorem dX8_findEquation_131 : decode cX8_findEquation 131 = .ok (.invokevirtual 191, 3) := by decide +kernel
theorem dX8_findEquation_134 : decode cX8_findEquation 134 = .ok (.aload_n 0, 1) := by decide +kernel
theorem dX8_findEquation_135 : decode cX8_findEquation 135 = .ok (.iconst 3, 1) := by decide +kernel
theorem dX8_findEquation_136 : decode cX8_findEquation 136 = .ok (.iconst 3, 1) := by decide +kernel
theorem dX8_findEquation_137 : decode cX8_findEquation 137 = .ok (.iconst (-1), 1) := by decide +kernel
theorem dX8_findEquation_138 : decode cX8_findEquation 138 = .ok (.ldc2_w 195, 3) := by decide +kernel
theorem dX8_findEquation_141 : decode cX8_findEquation 141 = .ok (.invokevirtual 191, 3) := by decide +kernel
theorem dX8_findEquation_144 : decode cX8_findEquation 144 = .ok (.goto 122, 3) := by decide +kernel
theorem dX8_findEquation_147 : decode cX8_findEquation 147 = .ok (.aload_n 0, 1) := by decide +kernel
theorem dX8_findEquation_148 : decode cX8_findEquation 148 = .ok (.iload_n 1, 1) := by decide +kernel
theorem dX8_findEquation_149 : decode cX8_findEquation 149 = .ok (.iconst 0, 1) := by decide +kernel
theorem dX8_findEquation_150 : decode cX8_findEquation 150 = .ok (.iconst 1, 1) := by decide +kernel
theorem dX8_findEquation_151 : decode cX8_findEquation 151 = .ok (.iconst 0, 1) := by decide +kernel
theorem dX8_findEquation_152 : decode cX8_findEquation 152 = .ok (.invokevirtual 187, 3) := by decide +kernel
theorem dX8_findEquation_155 : decode cX8_findEquation 155 = .ok (.aload_n 0, 1) := by decide +kernel
theorem dX8_findEquation_156 : decode cX8_findEquation 156 = .ok (.iload_n 1, 1) := by decide +kernel
theorem dX8_findEquation_157 : decode cX8_findEquation 157 = .ok (.iconst 3, 1) := by decide +kernel
theorem dX8_findEquation_158 : decode cX8_findEquation 158 = .ok (.iconst 2, 1) := by decide +kernel
theorem dX8_findEquation_159 : decode cX8_findEquation 159 = .ok (.iconst 0, 1) := by decide +kernel
theorem dX8_findEquation_160 : decode cX8_findEquation 160 = .ok (.invokevirtual 187, 3) := by decide +kernel
theorem dX8_findEquation_163 : decode cX8_findEquation 163 = .ok (.aload_n 0, 1) := by decide +kernel
theorem dX8_findEquation_164 : decode cX8_findEquation 164 = .ok (.iload_n 1, 1) := by decide +kernel
theorem dX8_findEquation_165 : decode cX8_findEquation 165 = .ok (.bipush 6, 2) := by decide +kernel
theorem dX8_findEquation_167 : decode cX8_findEquation 167 = .ok (.iconst 3, 1) := by decide +kernel
theorem dX8_findEquation_168 : decode cX8_findEquation 168 = .ok (.iconst 0, 1) := by decide +kernel
theorem dX8_findEquation_169 : decode cX8_findEquation 169 = .ok (.invokevirtual 187, 3) := by decide +kernel
theorem dX8_findEquation_172 : decode cX8_findEquation 172 = .ok (.aload_n 0, 1) := by decide +kernel
theorem dX8_findEquation_173 : decode cX8_findEquation 173 = .ok (.iload_n 1, 1) := by decide +kernel
theorem dX8_findEquation_174 : decode cX8_findEquation 174 = .ok (.bipush 9, 2) := by decide +kernel
theorem dX8_findEquation_176 : decode cX8_findEquation 176 = .ok (.iconst 3, 1) := by decide +kernel
theorem dX8_findEquation_177 : decode cX8_findEquation 177 = .ok (.iconst 0, 1) := by decide +kernel
theorem dX8_findEquation_178 : decode cX8_findEquation 178 = .ok (.invokevirtual 187, 3) := by decide +kernel
theorem dX8_findEquation_181 : decode cX8_findEquation 181 = .ok (.aload_n 0, 1) := by decide +kernel
theorem dX8_findEquation_182 : decode cX8_findEquation 182 = .ok (.iload_n 1, 1) := by decide +kernel
theorem dX8_findEquation_183 : decode cX8_findEquation 183 = .ok (.bipush 9, 2) := by decide +kernel
theorem dX8_findEquation_185 : decode cX8_findEquation 185 = .ok (.iconst 2, 1) := by decide +kernel
theorem dX8_findEquation_186 : decode cX8_findEquation 186 = .ok (.iconst 1, 1) := by decide +kernel
theorem dX8_findEquation_187 : decode cX8_findEquation 187 = .ok (.invokevirtual 187, 3) := by decide +kernel
theorem dX8_findEquation_190 : decode cX8_findEquation 190 = .ok (.aload_n 0, 1) := by decide +kernel
theorem dX8_findEquation_191 : decode cX8_findEquation 191 = .ok (.iload_n 1, 1) := by decide +kernel
theorem dX8_findEquation_192 : decode cX8_findEquation 192 = .ok (.bipush 12, 2) := by decide +kernel
theorem dX8_findEquation_194 : decode cX8_findEquation 194 = .ok (.iconst 3, 1) := by decide +kernel
theorem dX8_findEquation_195 : decode cX8_findEquation 195 = .ok (.iconst 1, 1) := by decide +kernel
theorem dX8_findEquation_196 : decode cX8_findEquation 196 = .ok (.invokevirtual 187, 3) := by decide +kernel
theorem dX8_findEquation_199 : decode cX8_findEquation 199 = .ok (.aload_n 0, 1) := by decide +kernel
theorem dX8_findEquation_200 : decode cX8_findEquation 200 = .ok (.iload_n 1, 1) := by decide +kernel
theorem dX8_findEquation_201 : decode cX8_findEquation 201 = .ok (.bipush 15, 2) := by decide +kernel
theorem dX8_findEquation_203 : decode cX8_findEquation 203 = .ok (.iconst 3, 1) := by decide +kernel
theorem dX8_findEquation_204 : decode cX8_findEquation 204 = .ok (.iconst 2, 1) := by decide +kernel
theorem dX8_findEquation_205 : decode cX8_findEquation 205 = .ok (.invokevirtual 187, 3) := by decide +kernel
theorem dX8_findEquation_208 : decode cX8_findEquation 208 = .ok (.aload_n 0, 1) := by decide +kernel
theorem dX8_findEquation_209 : decode cX8_findEquation 209 = .ok (.iconst 0, 1) := by decide +kernel
theorem dX8_findEquation_210 : decode cX8_findEquation 210 = .ok (.bipush 9, 2) := by decide +kernel
theorem dX8_findEquation_212 : decode cX8_findEquation 212 = .ok (.bipush 15, 2) := by decide +kernel
theorem dX8_findEquation_214 : decode cX8_findEquation 214 = .ok (.lconst 1, 1) := by decide +kernel
theorem dX8_findEquation_215 : decode cX8_findEquation 215 = .ok (.invokevirtual 191, 3) := by decide +kernel
theorem dX8_findEquation_218 : decode cX8_findEquation 218 = .ok (.aload_n 0, 1) := by decide +kernel
theorem dX8_findEquation_219 : decode cX8_findEquation 219 = .ok (.iconst 3, 1) := by decide +kernel
theorem dX8_findEquation_220 : decode cX8_findEquation 220 = .ok (.bipush 12, 2) := by decide +kernel
theorem dX8_findEquation_222 : decode cX8_findEquation 222 = .ok (.bipush 6, 2) := by decide +kernel
theorem dX8_findEquation_224 : decode cX8_findEquation 224 = .ok (.ldc2_w 166, 3) := by decide +kernel
theorem dX8_findEquation_227 : decode cX8_findEquation 227 = .ok (.invokevirtual 191, 3) := by decide +kernel
theorem dX8_findEquation_230 : decode cX8_findEquation 230 = .ok (.aload_n 0, 1) := by decide +kernel
theorem dX8_findEquation_231 : decode cX8_findEquation 231 = .ok (.bipush 6, 2) := by decide +kernel
theorem dX8_findEquation_233 : decode cX8_findEquation 233 = .ok (.bipush 9, 2) := by decide +kernel
theorem dX8_findEquation_235 : decode cX8_findEquation 235 = .ok (.bipush 6, 2) := by decide +kernel
theorem dX8_findEquation_237 : decode cX8_findEquation 237 = .ok (.ldc2_w 195, 3) := by decide +kernel
theorem dX8_findEquation_240 : decode cX8_findEquation 240 = .ok (.invokevirtual 191, 3) := by decide +kernel
theorem dX8_findEquation_243 : decode cX8_findEquation 243 = .ok (.aload_n 0, 1) := by decide +kernel
theorem dX8_findEquation_244 : decode cX8_findEquation 244 = .ok (.iconst 0, 1) := by decide +kernel
theorem dX8_findEquation_245 : decode cX8_findEquation 245 = .ok (.bipush 12, 2) := by decide +kernel
theorem dX8_findEquation_247 : decode cX8_findEquation 247 = .ok (.bipush 12, 2) := by decide +kernel
theorem dX8_findEquation_249 : decode cX8_findEquation 249 = .ok (.ldc2_w 195, 3) := by decide +kernel
theorem dX8_findEquation_252 : decode cX8_findEquation 252 = .ok (.invokevirtual 191, 3) := by decide +kernel
theorem dX8_findEquation_255 : decode cX8_findEquation 255 = .ok (.aload_n 0, 1) := by decide +kernel
theorem dX8_findEquation_256 : decode cX8_findEquation 256 = .ok (.iconst 3, 1) := by decide +kernel
theorem dX8_findEquation_257 : decode cX8_findEquation 257 = .ok (.iconst 3, 1) := by decide +kernel
theorem dX8_findEquation_258 : decode cX8_findEquation 258 = .ok (.bipush 15, 2) := by decide +kernel
theorem dX8_findEquation_260 : decode cX8_findEquation 260 = .ok (.ldc2_w 195, 3) := by decide +kernel
theorem dX8_findEquation_263 : decode cX8_findEquation 263 = .ok (.invokevirtual 191, 3) := by decide +kernel
theorem dX8_findEquation_266 : decode cX8_findEquation 266 = .ok (.lconst 0, 1) := by decide +kernel
theorem dX8_findEquation_267 : decode cX8_findEquation 267 = .ok (.lstore_n 3, 1) := by decide +kernel
theorem dX8_findEquation_268 : decode cX8_findEquation 268 = .ok (.lconst 0, 1) := by decide +kernel
theorem dX8_findEquation_269 : decode cX8_findEquation 269 = .ok (.lstore 5, 2) := by decide +kernel
theorem dX8_findEquation_271 : decode cX8_findEquation 271 = .ok (.iconst 0, 1) := by decide +kernel
theorem dX8_findEquation_272 : decode cX8_findEquation 272 = .ok (.istore 7, 2) := by decide +kernel
theorem dX8_findEquation_274 : decode cX8_findEquation 274 = .ok (.iload 7, 2) := by decide +kernel
theorem dX8_findEquation_276 : decode cX8_findEquation 276 = .ok (.bipush 10, 2) := by decide +kernel
theorem dX8_findEquation_278 : decode cX8_findEquation 278 = .ok (.if_icmp .ge 42, 3) := by decide +kernel
theorem dX8_findEquation_281 : decode cX8_findEquation 281 = .ok (.lload_n 3, 1) := by decide +kernel
theorem dX8_findEquation_282 : decode cX8_findEquation 282 = .ok (.aload_n 0, 1) := by decide +kernel
theorem dX8_findEquation_283 : decode cX8_findEquation 283 = .ok (.getfield 39, 3) := by decide +kernel
theorem dX8_findEquation_286 : decode cX8_findEquation 286 = .ok (.iload 7, 2) := by decide +kernel
theorem dX8_findEquation_288 : decode cX8_findEquation 288 = .ok (.laload, 1) := by decide +kernel
theorem dX8_findEquation_289 : decode cX8_findEquation 289 = .ok (.invokestatic 63, 3) := by decide +kernel
theorem dX8_findEquation_292 : decode cX8_findEquation 292 = .ok (.lstore_n 3, 1) := by decide +kernel
theorem dX8_findEquation_293 : decode cX8_findEquation 293 = .ok (.lload 5, 2) := by decide +kernel
theorem dX8_findEquation_295 : decode cX8_findEquation 295 = .ok (.lconst 0, 1) := by decide +kernel
theorem dX8_findEquation_296 : decode cX8_findEquation 296 = .ok (.lcmp, 1) := by decide +kernel
theorem dX8_findEquation_297 : decode cX8_findEquation 297 = .ok (.ifCond .ne 13, 3) := by decide +kernel
theorem dX8_findEquation_300 : decode cX8_findEquation 300 = .ok (.aload_n 0, 1) := by decide +kernel
theorem dX8_findEquation_301 : decode cX8_findEquation 301 = .ok (.getfield 39, 3) := by decide +kernel
theorem dX8_findEquation_304 : decode cX8_findEquation 304 = .ok (.iload 7, 2) := by decide +kernel
theorem dX8_findEquation_306 : decode cX8_findEquation 306 = .ok (.laload, 1) := by decide +kernel
theorem dX8_findEquation_307 : decode cX8_findEquation 307 = .ok (.goto 5, 3) := by decide +kernel
theorem dX8_findEquation_310 : decode cX8_findEquation 310 = .ok (.lload 5, 2) := by decide +kernel
theorem dX8_findEquation_312 : decode cX8_findEquation 312 = .ok (.lstore 5, 2) := by decide +kernel
theorem dX8_findEquation_314 : decode cX8_findEquation 314 = .ok (.iinc 7 1, 3) := by decide +kernel
theorem dX8_findEquation_317 : decode cX8_findEquation 317 = .ok (.goto (-43), 3) := by decide +kernel
theorem dX8_findEquation_320 : decode cX8_findEquation 320 = .ok (.lload 5, 2) := by decide +kernel
theorem dX8_findEquation_322 : decode cX8_findEquation 322 = .ok (.lconst 0, 1) := by decide +kernel
theorem dX8_findEquation_323 : decode cX8_findEquation 323 = .ok (.lcmp, 1) := by decide +kernel
theorem dX8_findEquation_324 : decode cX8_findEquation 324 = .ok (.ifCond .ge 8, 3) := by decide +kernel
theorem dX8_findEquation_327 : decode cX8_findEquation 327 = .ok (.lload_n 3, 1) := by decide +kernel
theorem dX8_findEquation_328 : decode cX8_findEquation 328 = .ok (.lneg, 1) := by decide +kernel
theorem dX8_findEquation_329 : decode cX8_findEquation 329 = .ok (.goto 4, 3) := by decide +kernel
theorem dX8_findEquation_332 : decode cX8_findEquation 332 = .ok (.lload_n 3, 1) := by decide +kernel
theorem dX8_findEquation_333 : decode cX8_findEquation 333 = .ok (.lstore_n 3, 1) := by decide +kernel
theorem dX8_findEquation_334 : decode cX8_findEquation 334 = .ok (.iconst 0, 1) := by decide +kernel
theorem dX8_findEquation_335 : decode cX8_findEquation 335 = .ok (.istore 7, 2) := by decide +kernel
theorem dX8_findEquation_337 : decode cX8_findEquation 337 = .ok (.iload 7, 2) := by decide +kernel
theorem dX8_findEquation_339 : decode cX8_findEquation 339 = .ok (.bipush 10, 2) := by decide +kernel
theorem dX8_findEquation_341 : decode cX8_findEquation 341 = .ok (.if_icmp .ge 20, 3) := by decide +kernel
theorem dX8_findEquation_344 : decode cX8_findEquation 344 = .ok (.aload_n 0, 1) := by decide +kernel
theorem dX8_findEquation_345 : decode cX8_findEquation 345 = .ok (.getfield 39, 3) := by decide +kernel
theorem dX8_findEquation_348 : decode cX8_findEquation 348 = .ok (.iload 7, 2) := by decide +kernel
theorem dX8_findEquation_350 : decode cX8_findEquation 350 = .ok (.dup2, 1) := by decide +kernel
theorem dX8_findEquation_351 : decode cX8_findEquation 351 = .ok (.laload, 1) := by decide +kernel
theorem dX8_findEquation_352 : decode cX8_findEquation 352 = .ok (.lload_n 3, 1) := by decide +kernel
theorem dX8_findEquation_353 : decode cX8_findEquation 353 = .ok (.ldiv, 1) := by decide +kernel
theorem dX8_findEquation_354 : decode cX8_findEquation 354 = .ok (.lastore, 1) := by decide +kernel
theorem dX8_findEquation_355 : decode cX8_findEquation 355 = .ok (.iinc 7 1, 3) := by decide +kernel
theorem dX8_findEquation_358 : decode cX8_findEquation 358 = .ok (.goto (-21), 3) := by decide +kernel
theorem dX8_findEquation_361 : decode cX8_findEquation 361 = .ok (.return_, 1) := by decide +kernel
set_option maxRecDepth 20000 in
theorem ggX8_equation_X8_in : GoodIn wsX8_equation wsX8_in := goodIn_r _ [7] rfl (by decide +kernel)
set_option maxRecDepth 20000 in
theorem gX8_equation_X8_in : GoodIn wsX8_equation (va_wsS RX8 79 yX8_in wsX8_in) := goodIn_app (goodIn_of _ (by decide +kernel)) ggX8_equation_X8_in
set_option maxRecDepth 20000 in
theorem ggX8_equation_X8_against : GoodIn wsX8_equation wsX8_against := goodIn_r _ [11, 12, 13, 14, 6, 15, 16, 4, 5, 7, 63, 64, 65, 66, 67, 68, 69, 70, 71, 72, 73, 74, 75, 76, 77, 78, 79, 80, 81] rfl (by decide +kernel)
set_option maxRecDepth 20000 in
theorem gX8_equation_X8_against : GoodIn wsX8_equation (wsV RX8 163 RX8 yX8_against wsX8_against) := goodIn_app (goodIn_of _ (by decide +kernel)) ggX8_equation_X8_against
set_option maxRecDepth 20000 in
theorem ggX8_equation_X8_kindOf : GoodIn wsX8_equation wsX8_kindOf := goodIn_r _ [20, 21, 22, 23, 6, 24, 25, 26, 27, 28, 29, 30, 31, 32, 33, 34, 35, 36, 37, 38, 39, 40, 41, 63, 64, 65, 66, 67, 68, 69, 70, 71, 72, 73, 74, 75, 76, 77, 78, 79, 80, 81] rfl (by decide +kernel)
set_option maxRecDepth 20000 in
theorem gX8_equation_X8_kindOf : GoodIn wsX8_equation (wsV RX8 103 RX8 yX8_kindOf wsX8_kindOf) := goodIn_app (goodIn_of _ (by decide +kernel)) ggX8_equation_X8_kindOf
set_option maxRecDepth 20000 in
theorem ggX8_equation_X8_findEquation : GoodIn wsX8_equation wsX8_findEquation := goodIn_r _ [45, 3, 46, 33, 47, 48, 17, 18, 19, 6, 20, 21, 22, 23, 24, 25, 26, 27, 28, 29, 30, 31, 32, 34, 35, 36, 37, 38, 39, 40, 41, 49, 50, 51, 52, 53, 54, 55, 56, 57, 58, 59, 60, 61, 62, 63, 64, 65, 66, 67, 68, 69, 70, 71, 72, 73, 74, 75, 76, 77, 78, 79, 80, 81] rfl (by decide +kernel)
set_option maxRecDepth 20000 in
theorem gX8_equation_X8_findEquation : GoodIn wsX8_equation (wsV RX8 199 RX8 yX8_findEquation wsX8_findEquation) := goodIn_app (goodIn_of _ (by decide +kernel)) ggX8_equation_X8_findEquation
theorem dX8_equation_0 : decode cX8_equation 0 = .ok (.iload_n 2, 1) := by decide +kernel
theorem dX8_equation_1 : decode cX8_equation 1 = .ok (.i2l, 1) := by decide +kernel
theorem dX8_equation_2 : decode cX8_equation 2 = .ok (.lconst 0, 1) := by decide +kernel
theorem dX8_equation_3 : decode cX8_equation 3 = .ok (.ldc2_w 101, 3) := by decide +kernel
theorem dX8_equation_6 : decode cX8_equation 6 = .ok (.invokestatic 79, 3) := by decide +kernel
theorem dX8_equation_9 : decode cX8_equation 9 = .ok (.ifCond .ne 7, 3) := by decide +kernel
theorem dX8_equation_12 : decode cX8_equation 12 = .ok (.iconst (-1), 1) := by decide +kernel
theorem dX8_equation_13 : decode cX8_equation 13 = .ok (.goto 8, 3) := by decide +kernel
theorem dX8_equation_16 : decode cX8_equation 16 = .ok (.aload_n 0, 1) := by decide +kernel
theorem dX8_equation_17 : decode cX8_equation 17 = .ok (.iload_n 1, 1) := by decide +kernel
theorem dX8_equation_18 : decode cX8_equation 18 = .ok (.invokevirtual 163, 3) := by decide +kernel
theorem dX8_equation_21 : decode cX8_equation 21 = .ok (.istore_n 3, 1) := by decide +kernel
theorem dX8_equation_22 : decode cX8_equation 22 = .ok (.iload_n 3, 1) := by decide +kernel
theorem dX8_equation_23 : decode cX8_equation 23 = .ok (.ifCond .ne 14, 3) := by decide +kernel
theorem dX8_equation_26 : decode cX8_equation 26 = .ok (.aload_n 0, 1) := by decide +kernel
theorem dX8_equation_27 : decode cX8_equation 27 = .ok (.iload_n 1, 1) := by decide +kernel
theorem dX8_equation_28 : decode cX8_equation 28 = .ok (.invokevirtual 103, 3) := by decide +kernel
theorem dX8_equation_31 : decode cX8_equation 31 = .ok (.ifCond .ne 6, 3) := by decide +kernel
theorem dX8_equation_34 : decode cX8_equation 34 = .ok (.bipush (-4), 2) := by decide +kernel
theorem dX8_equation_36 : decode cX8_equation 36 = .ok (.istore_n 3, 1) := by decide +kernel
theorem dX8_equation_37 : decode cX8_equation 37 = .ok (.iload_n 3, 1) := by decide +kernel
theorem dX8_equation_38 : decode cX8_equation 38 = .ok (.ifCond .ge 10, 3) := by decide +kernel
theorem dX8_equation_41 : decode cX8_equation 41 = .ok (.iload_n 3, 1) := by decide +kernel
theorem dX8_equation_42 : decode cX8_equation 42 = .ok (.i2l, 1) := by decide +kernel
theorem dX8_equation_43 : decode cX8_equation 43 = .ok (.ldc2_w 197, 3) := by decide +kernel
theorem dX8_equation_46 : decode cX8_equation 46 = .ok (.lsub, 1) := by decide +kernel
theorem dX8_equation_47 : decode cX8_equation 47 = .ok (.lreturn, 1) := by decide +kernel
theorem dX8_equation_48 : decode cX8_equation 48 = .ok (.aload_n 0, 1) := by decide +kernel
theorem dX8_equation_49 : decode cX8_equation 49 = .ok (.iload_n 1, 1) := by decide +kernel
theorem dX8_equation_50 : decode cX8_equation 50 = .ok (.invokevirtual 199, 3) := by decide +kernel
theorem dX8_equation_53 : decode cX8_equation 53 = .ok (.aload_n 0, 1) := by decide +kernel
theorem dX8_equation_54 : decode cX8_equation 54 = .ok (.getfield 39, 3) := by decide +kernel
theorem dX8_equation_57 : decode cX8_equation 57 = .ok (.iload_n 2, 1) := by decide +kernel
theorem dX8_equation_58 : decode cX8_equation 58 = .ok (.laload, 1) := by decide +kernel
theorem dX8_equation_59 : decode cX8_equation 59 = .ok (.lreturn, 1) := by decide +kernel
set_option maxRecDepth 20000 in
theorem ggX8_bends_X8_against : GoodIn wsX8_bends wsX8_against := goodIn_r _ [5, 6, 7, 8, 4, 9, 10, 11, 12, 13, 39, 40, 41, 42, 43, 44, 45, 46, 47, 48, 49, 50, 51, 52, 53, 54, 55, 56, 57] rfl (by decide +kernel)
set_option maxRecDepth 20000 in
theorem gX8_bends_X8_against : GoodIn wsX8_bends (wsV RX8 163 RX8 yX8_against wsX8_against) := goodIn_app (goodIn_of _ (by decide +kernel)) ggX8_bends_X8_against
set_option maxRecDepth 20000 in
theorem ggX8_bends_X8_kindOf : GoodIn wsX8_bends wsX8_kindOf := goodIn_r _ [17, 18, 19, 20, 4, 21, 22, 23, 24, 25, 26, 27, 28, 29, 30, 31, 32, 33, 34, 35, 36, 37, 38, 39, 40, 41, 42, 43, 44, 45, 46, 47, 48, 49, 50, 51, 52, 53, 54, 55, 56, 57] rfl (by decide +kernel)
set_option maxRecDepth 20000 in
theorem gX8_bends_X8_kindOf : GoodIn wsX8_bends (wsV RX8 103 RX8 yX8_kindOf wsX8_kindOf) := goodIn_app (goodIn_of _ (by decide +kernel)) ggX8_bends_X8_kindOf
theorem dX8_bends_0 : decode cX8_bends 0 = .ok (.aload_n 0, 1) := by decide +kernel
theorem dX8_bends_1 : decode cX8_bends 1 = .ok (.iload_n 1, 1) := by decide +kernel
theorem dX8_bends_2 : decode cX8_bends 2 = .ok (.invokevirtual 163, 3) := by decide +kernel
theorem dX8_bends_5 : decode cX8_bends 5 = .ok (.istore_n 2, 1) := by decide +kernel
theorem dX8_bends_6 : decode cX8_bends 6 = .ok (.iload_n 2, 1) := by decide +kernel
theorem dX8_bends_7 : decode cX8_bends 7 = .ok (.ifCond .ge 7, 3) := by decide +kernel
theorem dX8_bends_10 : decode cX8_bends 10 = .ok (.iload_n 2, 1) := by decide +kernel
theorem dX8_bends_11 : decode cX8_bends 11 = .ok (.goto 8, 3) := by decide +kernel
theorem dX8_bends_14 : decode cX8_bends 14 = .ok (.aload_n 0, 1) := by decide +kernel
theorem dX8_bends_15 : decode cX8_bends 15 = .ok (.iload_n 1, 1) := by decide +kernel
theorem dX8_bends_16 : decode cX8_bends 16 = .ok (.invokevirtual 103, 3) := by decide +kernel
theorem dX8_bends_19 : decode cX8_bends 19 = .ok (.istore_n 3, 1) := by decide +kernel
theorem dX8_bends_20 : decode cX8_bends 20 = .ok (.iload_n 3, 1) := by decide +kernel
theorem dX8_bends_21 : decode cX8_bends 21 = .ok (.ifCond .ne 8, 3) := by decide +kernel
theorem dX8_bends_24 : decode cX8_bends 24 = .ok (.bipush (-4), 2) := by decide +kernel
theorem dX8_bends_26 : decode cX8_bends 26 = .ok (.goto 4, 3) := by decide +kernel
theorem dX8_bends_29 : decode cX8_bends 29 = .ok (.iload_n 3, 1) := by decide +kernel
theorem dX8_bends_30 : decode cX8_bends 30 = .ok (.ireturn, 1) := by decide +kernel
set_option maxRecDepth 20000 in
theorem ggX8_times_X8_bends : GoodIn wsX8_times wsX8_bends := goodIn_r _ [5, 6, 7, 8, 4, 9, 10, 11, 12, 13, 14, 15, 16, 17, 18, 19, 20, 21, 22, 23, 24, 25, 26, 27, 28, 29, 30, 31, 32, 33, 34, 35, 36, 37, 38, 39, 40, 41, 42, 43, 44, 45, 46, 47, 48, 49, 50, 51, 52, 53, 54, 55, 56, 57, 58, 59, 60, 61] rfl (by decide +kernel)
set_option maxRecDepth 20000 in
theorem gX8_times_X8_bends : GoodIn wsX8_times (wsV RX8 203 RX8 yX8_bends wsX8_bends) := goodIn_app (goodIn_of _ (by decide +kernel)) ggX8_times_X8_bends
set_option maxRecDepth 20000 in
theorem ggX8_times_X8_degreeOf : GoodIn wsX8_times wsX8_degreeOf := goodIn_r _ [25, 26, 27, 28, 4, 29, 43, 44, 45, 46, 47, 48, 49, 50, 51, 52, 53, 54, 55, 56, 57, 58, 59, 60, 61] rfl (by decide +kernel)
set_option maxRecDepth 20000 in
theorem gX8_times_X8_degreeOf : GoodIn wsX8_times (wsV RX8 111 RX8 yX8_degreeOf wsX8_degreeOf) := goodIn_app (goodIn_of _ (by decide +kernel)) ggX8_times_X8_degreeOf
theorem dX8_times_0 : decode cX8_times 0 = .ok (.aload_n 0, 1) := by decide +kernel
theorem dX8_times_1 : decode cX8_times 1 = .ok (.iload_n 1, 1) := by decide +kernel
theorem dX8_times_2 : decode cX8_times 2 = .ok (.invokevirtual 203, 3) := by decide +kernel
theorem dX8_times_5 : decode cX8_times 5 = .ok (.istore_n 2, 1) := by decide +kernel
theorem dX8_times_6 : decode cX8_times 6 = .ok (.iload_n 2, 1) := by decide +kernel
theorem dX8_times_7 : decode cX8_times 7 = .ok (.iconst 1, 1) := by decide +kernel
theorem dX8_times_8 : decode cX8_times 8 = .ok (.if_icmp .ne 11, 3) := by decide +kernel
theorem dX8_times_11 : decode cX8_times 11 = .ok (.aload_n 0, 1) := by decide +kernel
theorem dX8_times_12 : decode cX8_times 12 = .ok (.iload_n 1, 1) := by decide +kernel
theorem dX8_times_13 : decode cX8_times 13 = .ok (.invokevirtual 111, 3) := by decide +kernel
theorem dX8_times_16 : decode cX8_times 16 = .ok (.goto 13, 3) := by decide +kernel
theorem dX8_times_19 : decode cX8_times 19 = .ok (.iload_n 2, 1) := by decide +kernel
theorem dX8_times_20 : decode cX8_times 20 = .ok (.iconst 1, 1) := by decide +kernel
theorem dX8_times_21 : decode cX8_times 21 = .ok (.if_icmp .le 7, 3) := by decide +kernel
theorem dX8_times_24 : decode cX8_times 24 = .ok (.iconst 1, 1) := by decide +kernel
theorem dX8_times_25 : decode cX8_times 25 = .ok (.goto 4, 3) := by decide +kernel
theorem dX8_times_28 : decode cX8_times 28 = .ok (.iload_n 2, 1) := by decide +kernel
theorem dX8_times_29 : decode cX8_times 29 = .ok (.ireturn, 1) := by decide +kernel
set_option maxRecDepth 20000 in
theorem ggX8_lies_X8_in : GoodIn wsX8_lies wsX8_in := goodIn_r _ [8] rfl (by decide +kernel)
set_option maxRecDepth 20000 in
theorem gX8_lies_X8_in : GoodIn wsX8_lies (va_wsS RX8 79 yX8_in wsX8_in) := goodIn_app (goodIn_of _ (by decide +kernel)) ggX8_lies_X8_in
set_option maxRecDepth 20000 in
theorem ggX8_lies_X8_against : GoodIn wsX8_lies wsX8_against := goodIn_r _ [12, 13, 14, 15, 7, 16, 17, 5, 6, 8, 63, 64, 65, 66, 67, 68, 69, 70, 71, 72, 73, 74, 75, 76, 77, 78, 79, 80, 81] rfl (by decide +kernel)
set_option maxRecDepth 20000 in
theorem gX8_lies_X8_against : GoodIn wsX8_lies (wsV RX8 163 RX8 yX8_against wsX8_against) := goodIn_app (goodIn_of _ (by decide +kernel)) ggX8_lies_X8_against
set_option maxRecDepth 20000 in
theorem ggX8_lies_X8_kindOf : GoodIn wsX8_lies wsX8_kindOf := goodIn_r _ [21, 22, 23, 24, 7, 25, 3, 26, 27, 28, 29, 30, 31, 32, 33, 34, 35, 36, 37, 38, 39, 40, 41, 63, 64, 65, 66, 67, 68, 69, 70, 71, 72, 73, 74, 75, 76, 77, 78, 79, 80, 81] rfl (by decide +kernel)
set_option maxRecDepth 20000 in
theorem gX8_lies_X8_kindOf : GoodIn wsX8_lies (wsV RX8 103 RX8 yX8_kindOf wsX8_kindOf) := goodIn_app (goodIn_of _ (by decide +kernel)) ggX8_lies_X8_kindOf
set_option maxRecDepth 20000 in
theorem ggX8_lies_X8_findEquation : GoodIn wsX8_lies wsX8_findEquation := goodIn_r _ [45, 4, 46, 33, 47, 48, 18, 19, 20, 7, 21, 22, 23, 24, 25, 3, 26, 27, 28, 29, 30, 31, 32, 34, 35, 36, 37, 38, 39, 40, 41, 49, 50, 51, 52, 53, 54, 55, 56, 57, 58, 59, 60, 61, 62, 63, 64, 65, 66, 67, 68, 69, 70, 71, 72, 73, 74, 75, 76, 77, 78, 79, 80, 81] rfl (by decide +kernel)
set_option maxRecDepth 20000 in
theorem gX8_lies_X8_findEquation : GoodIn wsX8_lies (wsV RX8 199 RX8 yX8_findEquation wsX8_findEquation) := goodIn_app (goodIn_of _ (by decide +kernel)) ggX8_lies_X8_findEquation
set_option maxRecDepth 20000 in
theorem ggX8_lies_X8_placeOf : GoodIn wsX8_lies wsX8_placeOf := goodIn_r _ [59] rfl (by decide +kernel)
set_option maxRecDepth 20000 in
theorem gX8_lies_X8_placeOf : GoodIn wsX8_lies (va_wsS RX8 183 yX8_placeOf wsX8_placeOf) := goodIn_app (goodIn_of _ (by decide +kernel)) ggX8_lies_X8_placeOf
theorem dX8_lies_0 : decode cX8_lies 0 = .ok (.iload_n 2, 1) := by decide +kernel
theorem dX8_lies_1 : decode cX8_lies 1 = .ok (.i2l, 1) := by decide +kernel
theorem dX8_lies_2 : decode cX8_lies 2 = .ok (.ldc2_w 168, 3) := by decide +kernel
theorem dX8_lies_5 : decode cX8_lies 5 = .ok (.ldc2_w 170, 3) := by decide +kernel
theorem dX8_lies_8 : decode cX8_lies 8 = .ok (.invokestatic 79, 3) := by decide +kernel
theorem dX8_lies_11 : decode cX8_lies 11 = .ok (.ifCond .eq 30, 3) := by decide +kernel
theorem dX8_lies_14 : decode cX8_lies 14 = .ok (.iload_n 3, 1) := by decide +kernel
theorem dX8_lies_15 : decode cX8_lies 15 = .ok (.i2l, 1) := by decide +kernel
theorem dX8_lies_16 : decode cX8_lies 16 = .ok (.ldc2_w 168, 3) := by decide +kernel
theorem dX8_lies_19 : decode cX8_lies 19 = .ok (.ldc2_w 170, 3) := by decide +kernel
theorem dX8_lies_22 : decode cX8_lies 22 = .ok (.invokestatic 79, 3) := by decide +kernel
theorem dX8_lies_25 : decode cX8_lies 25 = .ok (.ifCond .eq 16, 3) := by decide +kernel
theorem dX8_lies_28 : decode cX8_lies 28 = .ok (.iload 4, 2) := by decide +kernel
theorem dX8_lies_30 : decode cX8_lies 30 = .ok (.i2l, 1) := by decide +kernel
theorem dX8_lies_31 : decode cX8_lies 31 = .ok (.lconst 1, 1) := by decide +kernel
theorem dX8_lies_32 : decode cX8_lies 32 = .ok (.ldc2_w 170, 3) := by decide +kernel
theorem dX8_lies_35 : decode cX8_lies 35 = .ok (.invokestatic 79, 3) := by decide +kernel
theorem dX8_lies_38 : decode cX8_lies 38 = .ok (.ifCond .ne 7, 3) := by decide +kernel
theorem dX8_lies_41 : decode cX8_lies 41 = .ok (.iconst (-1), 1) := by decide +kernel
theorem dX8_lies_42 : decode cX8_lies 42 = .ok (.goto 8, 3) := by decide +kernel
theorem dX8_lies_45 : decode cX8_lies 45 = .ok (.aload_n 0, 1) := by decide +kernel
theorem dX8_lies_46 : decode cX8_lies 46 = .ok (.iload_n 1, 1) := by decide +kernel
theorem dX8_lies_47 : decode cX8_lies 47 = .ok (.invokevirtual 163, 3) := by decide +kernel
theorem dX8_lies_50 : decode cX8_lies 50 = .ok (.istore 5, 2) := by decide +kernel
theorem dX8_lies_52 : decode cX8_lies 52 = .ok (.iload 5, 2) := by decide +kernel
theorem dX8_lies_54 : decode cX8_lies 54 = .ok (.ifCond .ge 6, 3) := by decide +kernel
theorem dX8_lies_57 : decode cX8_lies 57 = .ok (.iload 5, 2) := by decide +kernel
theorem dX8_lies_59 : decode cX8_lies 59 = .ok (.ireturn, 1) := by decide +kernel
theorem dX8_lies_60 : decode cX8_lies 60 = .ok (.aload_n 0, 1) := by decide +kernel
theorem dX8_lies_61 : decode cX8_lies 61 = .ok (.iload_n 1, 1) := by decide +kernel
theorem dX8_lies_62 : decode cX8_lies 62 = .ok (.invokevirtual 103, 3) := by decide +kernel
theorem dX8_lies_65 : decode cX8_lies 65 = .ok (.ifCond .ne 73, 3) := by decide +kernel
theorem dX8_lies_68 : decode cX8_lies 68 = .ok (.bipush 12, 2) := by decide +kernel
theorem dX8_lies_70 : decode cX8_lies 70 = .ok (.iload_n 1, 1) := by decide +kernel
theorem dX8_lies_71 : decode cX8_lies 71 = .ok (.imul, 1) := by decide +kernel
theorem dX8_lies_72 : decode cX8_lies 72 = .ok (.istore 6, 2) := by decide +kernel
theorem dX8_lies_74 : decode cX8_lies 74 = .ok (.aload_n 0, 1) := by decide +kernel
theorem dX8_lies_75 : decode cX8_lies 75 = .ok (.getfield 13, 3) := by decide +kernel
theorem dX8_lies_78 : decode cX8_lies 78 = .ok (.iload 6, 2) := by decide +kernel
theorem dX8_lies_80 : decode cX8_lies 80 = .ok (.laload, 1) := by decide +kernel
theorem dX8_lies_81 : decode cX8_lies 81 = .ok (.iload 4, 2) := by decide +kernel
theorem dX8_lies_83 : decode cX8_lies 83 = .ok (.i2l, 1) := by decide +kernel
theorem dX8_lies_84 : decode cX8_lies 84 = .ok (.lmul, 1) := by decide +kernel
theorem dX8_lies_85 : decode cX8_lies 85 = .ok (.iload_n 2, 1) := by decide +kernel
theorem dX8_lies_86 : decode cX8_lies 86 = .ok (.i2l, 1) := by decide +kernel
theorem dX8_lies_87 : decode cX8_lies 87 = .ok (.aload_n 0, 1) := by decide +kernel
theorem dX8_lies_88 : decode cX8_lies 88 = .ok (.getfield 13, 3) := by decide +kernel
theorem dX8_lies_91 : decode cX8_lies 91 = .ok (.iload 6, 2) := by decide +kernel
theorem dX8_lies_93 : decode cX8_lies 93 = .ok (.bipush 8, 2) := by decide +kernel
theorem dX8_lies_95 : decode cX8_lies 95 = .ok (.iadd, 1) := by decide +kernel
theorem dX8_lies_96 : decode cX8_lies 96 = .ok (.laload, 1) := by decide +kernel
theorem dX8_lies_97 : decode cX8_lies 97 = .ok (.lmul, 1) := by decide +kernel
theorem dX8_lies_98 : decode cX8_lies 98 = .ok (.lcmp, 1) := by decide +kernel
theorem dX8_lies_99 : decode cX8_lies 99 = .ok (.ifCond .ne 37, 3) := by decide +kernel
theorem dX8_lies_102 : decode cX8_lies 102 = .ok (.aload_n 0, 1) := by decide +kernel
theorem dX8_lies_103 : decode cX8_lies 103 = .ok (.getfield 13, 3) := by decide +kernel
theorem dX8_lies_106 : decode cX8_lies 106 = .ok (.iload 6, 2) := by decide +kernel
theorem dX8_lies_108 : decode cX8_lies 108 = .ok (.iconst 4, 1) := by decide +kernel
theorem dX8_lies_109 : decode cX8_lies 109 = .ok (.iadd, 1) := by decide +kernel
theorem dX8_lies_110 : decode cX8_lies 110 = .ok (.laload, 1) := by decide +kernel
theorem dX8_lies_111 : decode cX8_lies 111 = .ok (.iload 4, 2) := by decide +kernel
theorem dX8_lies_113 : decode cX8_lies 113 = .ok (.i2l, 1) := by decide +kernel
theorem dX8_lies_114 : decode cX8_lies 114 = .ok (.lmul, 1) := by decide +kernel
theorem dX8_lies_115 : decode cX8_lies 115 = .ok (.iload_n 3, 1) := by decide +kernel
theorem dX8_lies_116 : decode cX8_lies 116 = .ok (.i2l, 1) := by decide +kernel
theorem dX8_lies_117 : decode cX8_lies 117 = .ok (.aload_n 0, 1) := by decide +kernel
theorem dX8_lies_118 : decode cX8_lies 118 = .ok (.getfield 13, 3) := by decide +kernel
theorem dX8_lies_121 : decode cX8_lies 121 = .ok (.iload 6, 2) := by decide +kernel
theorem dX8_lies_123 : decode cX8_lies 123 = .ok (.bipush 8, 2) := by decide +kernel
theorem dX8_lies_125 : decode cX8_lies 125 = .ok (.iadd, 1) := by decide +kernel
theorem dX8_lies_126 : decode cX8_lies 126 = .ok (.laload, 1) := by decide +kernel
theorem dX8_lies_127 : decode cX8_lies 127 = .ok (.lmul, 1) := by decide +kernel
theorem dX8_lies_128 : decode cX8_lies 128 = .ok (.lcmp, 1) := by decide +kernel
theorem dX8_lies_129 : decode cX8_lies 129 = .ok (.ifCond .ne 7, 3) := by decide +kernel
theorem dX8_lies_132 : decode cX8_lies 132 = .ok (.iconst 1, 1) := by decide +kernel
theorem dX8_lies_133 : decode cX8_lies 133 = .ok (.goto 4, 3) := by decide +kernel
theorem dX8_lies_136 : decode cX8_lies 136 = .ok (.iconst 0, 1) := by decide +kernel
theorem dX8_lies_137 : decode cX8_lies 137 = .ok (.ireturn, 1) := by decide +kernel
theorem dX8_lies_138 : decode cX8_lies 138 = .ok (.aload_n 0, 1) := by decide +kernel
theorem dX8_lies_139 : decode cX8_lies 139 = .ok (.iload_n 1, 1) := by decide +kernel
theorem dX8_lies_140 : decode cX8_lies 140 = .ok (.invokevirtual 199, 3) := by decide +kernel
theorem dX8_lies_143 : decode cX8_lies 143 = .ok (.lconst 0, 1) := by decide +kernel
theorem dX8_lies_144 : decode cX8_lies 144 = .ok (.lstore 6, 2) := by decide +kernel
theorem dX8_lies_146 : decode cX8_lies 146 = .ok (.iconst 0, 1) := by decide +kernel
theorem dX8_lies_147 : decode cX8_lies 147 = .ok (.istore 8, 2) := by decide +kernel
theorem dX8_lies_149 : decode cX8_lies 149 = .ok (.iload 8, 2) := by decide +kernel
theorem dX8_lies_151 : decode cX8_lies 151 = .ok (.iconst 4, 1) := by decide +kernel
theorem dX8_lies_152 : decode cX8_lies 152 = .ok (.if_icmp .ge 98, 3) := by decide +kernel
theorem dX8_lies_155 : decode cX8_lies 155 = .ok (.iconst 0, 1) := by decide +kernel
theorem dX8_lies_156 : decode cX8_lies 156 = .ok (.istore 9, 2) := by decide +kernel
theorem dX8_lies_158 : decode cX8_lies 158 = .ok (.iload 8, 2) := by decide +kernel
theorem dX8_lies_160 : decode cX8_lies 160 = .ok (.iload 9, 2) := by decide +kernel
theorem dX8_lies_162 : decode cX8_lies 162 = .ok (.iadd, 1) := by decide +kernel
theorem dX8_lies_163 : decode cX8_lies 163 = .ok (.iconst 4, 1) := by decide +kernel
theorem dX8_lies_164 : decode cX8_lies 164 = .ok (.if_icmp .ge 80, 3) := by decide +kernel
theorem dX8_lies_167 : decode cX8_lies 167 = .ok (.aload_n 0, 1) := by decide +kernel
theorem dX8_lies_168 : decode cX8_lies 168 = .ok (.getfield 39, 3) := by decide +kernel
theorem dX8_lies_171 : decode cX8_lies 171 = .ok (.iload 8, 2) := by decide +kernel
theorem dX8_lies_173 : decode cX8_lies 173 = .ok (.iload 9, 2) := by decide +kernel
theorem dX8_lies_175 : decode cX8_lies 175 = .ok (.invokestatic 183, 3) := by decide +kernel
theorem dX8_lies_178 : decode cX8_lies 178 = .ok (.laload, 1) := by decide +kernel
theorem dX8_lies_179 : decode cX8_lies 179 = .ok (.lstore 10, 2) := by decide +kernel
theorem dX8_lies_181 : decode cX8_lies 181 = .ok (.iconst 0, 1) := by decide +kernel
theorem dX8_lies_182 : decode cX8_lies 182 = .ok (.istore 12, 2) := by decide +kernel
theorem dX8_lies_184 : decode cX8_lies 184 = .ok (.iload 12, 2) := by decide +kernel
theorem dX8_lies_186 : decode cX8_lies 186 = .ok (.iconst 3, 1) := by decide +kernel
theorem dX8_lies_187 : decode cX8_lies 187 = .ok (.if_icmp .ge 44, 3) := by decide +kernel
theorem dX8_lies_190 : decode cX8_lies 190 = .ok (.lload 10, 2) := by decide +kernel
theorem dX8_lies_192 : decode cX8_lies 192 = .ok (.iload 12, 2) := by decide +kernel
theorem dX8_lies_194 : decode cX8_lies 194 = .ok (.iload 8, 2) := by decide +kernel
theorem dX8_lies_196 : decode cX8_lies 196 = .ok (.if_icmp .ge 8, 3) := by decide +kernel
theorem dX8_lies_199 : decode cX8_lies 199 = .ok (.iload_n 2, 1) := by decide +kernel
theorem dX8_lies_200 : decode cX8_lies 200 = .ok (.i2l, 1) := by decide +kernel
theorem dX8_lies_201 : decode cX8_lies 201 = .ok (.goto 21, 3) := by decide +kernel
theorem dX8_lies_204 : decode cX8_lies 204 = .ok (.iload 12, 2) := by decide +kernel
theorem dX8_lies_206 : decode cX8_lies 206 = .ok (.iload 8, 2) := by decide +kernel
theorem dX8_lies_208 : decode cX8_lies 208 = .ok (.iload 9, 2) := by decide +kernel
theorem dX8_lies_210 : decode cX8_lies 210 = .ok (.iadd, 1) := by decide +kernel
theorem dX8_lies_211 : decode cX8_lies 211 = .ok (.if_icmp .ge 8, 3) := by decide +kernel
theorem dX8_lies_214 : decode cX8_lies 214 = .ok (.iload_n 3, 1) := by decide +kernel
theorem dX8_lies_215 : decode cX8_lies 215 = .ok (.i2l, 1) := by decide +kernel
theorem dX8_lies_216 : decode cX8_lies 216 = .ok (.goto 6, 3) := by decide +kernel
theorem dX8_lies_219 : decode cX8_lies 219 = .ok (.iload 4, 2) := by decide +kernel
theorem dX8_lies_221 : decode cX8_lies 221 = .ok (.i2l, 1) := by decide +kernel
theorem dX8_lies_222 : decode cX8_lies 222 = .ok (.lmul, 1) := by decide +kernel
theorem dX8_lies_223 : decode cX8_lies 223 = .ok (.lstore 10, 2) := by decide +kernel
theorem dX8_lies_225 : decode cX8_lies 225 = .ok (.iinc 12 1, 3) := by decide +kernel
theorem dX8_lies_228 : decode cX8_lies 228 = .ok (.goto (-44), 3) := by decide +kernel
theorem dX8_lies_231 : decode cX8_lies 231 = .ok (.lload 6, 2) := by decide +kernel
theorem dX8_lies_233 : decode cX8_lies 233 = .ok (.lload 10, 2) := by decide +kernel
theorem dX8_lies_235 : decode cX8_lies 235 = .ok (.ladd, 1) := by decide +kernel
theorem dX8_lies_236 : decode cX8_lies 236 = .ok (.lstore 6, 2) := by decide +kernel
theorem dX8_lies_238 : decode cX8_lies 238 = .ok (.iinc 9 1, 3) := by decide +kernel
theorem dX8_lies_241 : decode cX8_lies 241 = .ok (.goto (-83), 3) := by decide +kernel
theorem dX8_lies_244 : decode cX8_lies 244 = .ok (.iinc 8 1, 3) := by decide +kernel
theorem dX8_lies_247 : decode cX8_lies 247 = .ok (.goto (-98), 3) := by decide +kernel
theorem dX8_lies_250 : decode cX8_lies 250 = .ok (.lload 6, 2) := by decide +kernel
theorem dX8_lies_252 : decode cX8_lies 252 = .ok (.lconst 0, 1) := by decide +kernel
theorem dX8_lies_253 : decode cX8_lies 253 = .ok (.lcmp, 1) := by decide +kernel
theorem dX8_lies_254 : decode cX8_lies 254 = .ok (.ifCond .ne 7, 3) := by decide +kernel
theorem dX8_lies_257 : decode cX8_lies 257 = .ok (.iconst 1, 1) := by decide +kernel
theorem dX8_lies_258 : decode cX8_lies 258 = .ok (.goto 4, 3) := by decide +kernel
theorem dX8_lies_261 : decode cX8_lies 261 = .ok (.iconst 0, 1) := by decide +kernel
theorem dX8_lies_262 : decode cX8_lies 262 = .ok (.ireturn, 1) := by decide +kernel
theorem dX8_without_0 : decode cX8_without 0 = .ok (.iconst 0, 1) := by decide +kernel
theorem dX8_without_1 : decode cX8_without 1 = .ok (.istore_n 2, 1) := by decide +kernel
theorem dX8_without_2 : decode cX8_without 2 = .ok (.iload_n 2, 1) := by decide +kernel
theorem dX8_without_3 : decode cX8_without 3 = .ok (.iconst 5, 1) := by decide +kernel
theorem dX8_without_4 : decode cX8_without 4 = .ok (.if_icmp .ge 58, 3) := by decide +kernel
theorem dX8_without_7 : decode cX8_without 7 = .ok (.iconst 0, 1) := by decide +kernel
theorem dX8_without_8 : decode cX8_without 8 = .ok (.istore_n 3, 1) := by decide +kernel
theorem dX8_without_9 : decode cX8_without 9 = .ok (.iconst 0, 1) := by decide +kernel
theorem dX8_without_10 : decode cX8_without 10 = .ok (.istore 4, 2) := by decide +kernel
theorem dX8_without_12 : decode cX8_without 12 = .ok (.iload 4, 2) := by decide +kernel
theorem dX8_without_14 : decode cX8_without 14 = .ok (.bipush 6, 2) := by decide +kernel
theorem dX8_without_16 : decode cX8_without 16 = .ok (.if_icmp .ge 40, 3) := by decide +kernel
theorem dX8_without_19 : decode cX8_without 19 = .ok (.iload 4, 2) := by decide +kernel
theorem dX8_without_21 : decode cX8_without 21 = .ok (.iload_n 1, 1) := by decide +kernel
theorem dX8_without_22 : decode cX8_without 22 = .ok (.if_icmp .eq 28, 3) := by decide +kernel
theorem dX8_without_25 : decode cX8_without 25 = .ok (.aload_n 0, 1) := by decide +kernel
theorem dX8_without_26 : decode cX8_without 26 = .ok (.getfield 45, 3) := by decide +kernel
theorem dX8_without_29 : decode cX8_without 29 = .ok (.iconst 5, 1) := by decide +kernel
theorem dX8_without_30 : decode cX8_without 30 = .ok (.iload_n 2, 1) := by decide +kernel
theorem dX8_without_31 : decode cX8_without 31 = .ok (.imul, 1) := by decide +kernel
theorem dX8_without_32 : decode cX8_without 32 = .ok (.iload_n 3, 1) := by decide +kernel
theorem dX8_without_33 : decode cX8_without 33 = .ok (.iadd, 1) := by decide +kernel
theorem dX8_without_34 : decode cX8_without 34 = .ok (.aload_n 0, 1) := by decide +kernel
theorem dX8_without_35 : decode cX8_without 35 = .ok (.getfield 42, 3) := by decide +kernel
theorem dX8_without_38 : decode cX8_without 38 = .ok (.bipush 6, 2) := by decide +kernel
theorem dX8_without_40 : decode cX8_without 40 = .ok (.iload_n 2, 1) := by decide +kernel
theorem dX8_without_41 : decode cX8_without 41 = .ok (.imul, 1) := by decide +kernel
theorem dX8_without_42 : decode cX8_without 42 = .ok (.iload 4, 2) := by decide +kernel
theorem dX8_without_44 : decode cX8_without 44 = .ok (.iadd, 1) := by decide +kernel
theorem dX8_without_45 : decode cX8_without 45 = .ok (.laload, 1) := by decide +kernel
theorem dX8_without_46 : decode cX8_without 46 = .ok (.lastore, 1) := by decide +kernel
theorem dX8_without_47 : decode cX8_without 47 = .ok (.iinc 3 1, 3) := by decide +kernel
theorem dX8_without_50 : decode cX8_without 50 = .ok (.iinc 4 1, 3) := by decide +kernel
theorem dX8_without_53 : decode cX8_without 53 = .ok (.goto (-41), 3) := by decide +kernel
theorem dX8_without_56 : decode cX8_without 56 = .ok (.iinc 2 1, 3) := by decide +kernel
theorem dX8_without_59 : decode cX8_without 59 = .ok (.goto (-57), 3) := by decide +kernel
theorem dX8_without_62 : decode cX8_without 62 = .ok (.lconst 1, 1) := by decide +kernel
theorem dX8_without_63 : decode cX8_without 63 = .ok (.lstore_n 2, 1) := by decide +kernel
theorem dX8_without_64 : decode cX8_without 64 = .ok (.lconst 1, 1) := by decide +kernel
theorem dX8_without_65 : decode cX8_without 65 = .ok (.lstore 4, 2) := by decide +kernel
theorem dX8_without_67 : decode cX8_without 67 = .ok (.iconst 0, 1) := by decide +kernel
theorem dX8_without_68 : decode cX8_without 68 = .ok (.istore 6, 2) := by decide +kernel
theorem dX8_without_70 : decode cX8_without 70 = .ok (.iload 6, 2) := by decide +kernel
theorem dX8_without_72 : decode cX8_without 72 = .ok (.iconst 4, 1) := by decide +kernel
theorem dX8_without_73 : decode cX8_without 73 = .ok (.if_icmp .ge 255, 3) := by decide +kernel
theorem dX8_without_76 : decode cX8_without 76 = .ok (.iload 6, 2) := by decide +kernel
theorem dX8_without_78 : decode cX8_without 78 = .ok (.istore 7, 2) := by decide +kernel
theorem dX8_without_80 : decode cX8_without 80 = .ok (.iload 7, 2) := by decide +kernel
theorem dX8_without_82 : decode cX8_without 82 = .ok (.iconst 5, 1) := by decide +kernel
theorem dX8_without_83 : decode cX8_without 83 = .ok (.if_icmp .ge 26, 3) := by decide +kernel
theorem dX8_without_86 : decode cX8_without 86 = .ok (.aload_n 0, 1) := by decide +kernel
theorem dX8_without_87 : decode cX8_without 87 = .ok (.getfield 45, 3) := by decide +kernel
theorem dX8_without_90 : decode cX8_without 90 = .ok (.iconst 5, 1) := by decide +kernel
theorem dX8_without_91 : decode cX8_without 91 = .ok (.iload 7, 2) := by decide +kernel
theorem dX8_without_93 : decode cX8_without 93 = .ok (.imul, 1) := by decide +kernel
theorem dX8_without_94 : decode cX8_without 94 = .ok (.iload 6, 2) := by decide +kernel
theorem dX8_without_96 : decode cX8_without 96 = .ok (.iadd, 1) := by decide +kernel
theorem dX8_without_97 : decode cX8_without 97 = .ok (.laload, 1) := by decide +kernel
theorem dX8_without_98 : decode cX8_without 98 = .ok (.lconst 0, 1) := by decide +kernel
theorem dX8_without_99 : decode cX8_without 99 = .ok (.lcmp, 1) := by decide +kernel
theorem dX8_without_100 : decode cX8_without 100 = .ok (.ifCond .ne 9, 3) := by decide +kernel
theorem dX8_without_103 : decode cX8_without 103 = .ok (.iinc 7 1, 3) := by decide +kernel
theorem dX8_without_106 : decode cX8_without 106 = .ok (.goto (-26), 3) := by decide +kernel
theorem dX8_without_109 : decode cX8_without 109 = .ok (.iload 7, 2) := by decide +kernel
theorem dX8_without_111 : decode cX8_without 111 = .ok (.iconst 5, 1) := by decide +kernel
theorem dX8_without_112 : decode cX8_without 112 = .ok (.if_icmp .ne 5, 3) := by decide +kernel
theorem dX8_without_115 : decode cX8_without 115 = .ok (.lconst 0, 1) := by decide +kernel
theorem dX8_without_116 : decode cX8_without 116 = .ok (.lreturn, 1) := by decide +kernel
theorem dX8_without_117 : decode cX8_without 117 = .ok (.iconst 0, 1) := by decide +kernel
theorem dX8_without_118 : decode cX8_without 118 = .ok (.istore 8, 2) := by decide +kernel
theorem dX8_without_120 : decode cX8_without 120 = .ok (.iload 8, 2) := by decide +kernel
theorem dX8_without_122 : decode cX8_without 122 = .ok (.iconst 5, 1) := by decide +kernel
theorem dX8_without_123 : decode cX8_without 123 = .ok (.if_icmp .ge 68, 3) := by decide +kernel
theorem dX8_without_126 : decode cX8_without 126 = .ok (.iload 7, 2) := by decide +kernel
theorem dX8_without_128 : decode cX8_without 128 = .ok (.iload 6, 2) := by decide +kernel
theorem dX8_without_130 : decode cX8_without 130 = .ok (.if_icmp .eq 61, 3) := by decide +kernel
theorem dX8_without_133 : decode cX8_without 133 = .ok (.aload_n 0, 1) := by decide +kernel
theorem dX8_without_134 : decode cX8_without 134 = .ok (.getfield 45, 3) := by decide +kernel
theorem dX8_without_137 : decode cX8_without 137 = .ok (.iconst 5, 1) := by decide +kernel
theorem dX8_without_138 : decode cX8_without 138 = .ok (.iload 7, 2) := by decide +kernel
theorem dX8_without_140 : decode cX8_without 140 = .ok (.imul, 1) := by decide +kernel
theorem dX8_without_141 : decode cX8_without 141 = .ok (.iload 8, 2) := by decide +kernel
theorem dX8_without_143 : decode cX8_without 143 = .ok (.iadd, 1) := by decide +kernel
theorem dX8_without_144 : decode cX8_without 144 = .ok (.laload, 1) := by decide +kernel
theorem dX8_without_145 : decode cX8_without 145 = .ok (.lstore 9, 2) := by decide +kernel
theorem dX8_without_147 : decode cX8_without 147 = .ok (.aload_n 0, 1) := by decide +kernel
theorem dX8_without_148 : decode cX8_without 148 = .ok (.getfield 45, 3) := by decide +kernel
theorem dX8_without_151 : decode cX8_without 151 = .ok (.iconst 5, 1) := by decide +kernel
theorem dX8_without_152 : decode cX8_without 152 = .ok (.iload 7, 2) := by decide +kernel
theorem dX8_without_154 : decode cX8_without 154 = .ok (.imul, 1) := by decide +kernel
theorem dX8_without_155 : decode cX8_without 155 = .ok (.iload 8, 2) := by decide +kernel
theorem dX8_without_157 : decode cX8_without 157 = .ok (.iadd, 1) := by decide +kernel
theorem dX8_without_158 : decode cX8_without 158 = .ok (.aload_n 0, 1) := by decide +kernel
theorem dX8_without_159 : decode cX8_without 159 = .ok (.getfield 45, 3) := by decide +kernel
theorem dX8_without_162 : decode cX8_without 162 = .ok (.iconst 5, 1) := by decide +kernel
theorem dX8_without_163 : decode cX8_without 163 = .ok (.iload 6, 2) := by decide +kernel
theorem dX8_without_165 : decode cX8_without 165 = .ok (.imul, 1) := by decide +kernel
theorem dX8_without_166 : decode cX8_without 166 = .ok (.iload 8, 2) := by decide +kernel
theorem dX8_without_168 : decode cX8_without 168 = .ok (.iadd, 1) := by decide +kernel
theorem dX8_without_169 : decode cX8_without 169 = .ok (.laload, 1) := by decide +kernel
theorem dX8_without_170 : decode cX8_without 170 = .ok (.lastore, 1) := by decide +kernel
theorem dX8_without_171 : decode cX8_without 171 = .ok (.aload_n 0, 1) := by decide +kernel
theorem dX8_without_172 : decode cX8_without 172 = .ok (.getfield 45, 3) := by decide +kernel
theorem dX8_without_175 : decode cX8_without 175 = .ok (.iconst 5, 1) := by decide +kernel
theorem dX8_without_176 : decode cX8_without 176 = .ok (.iload 6, 2) := by decide +kernel
theorem dX8_without_178 : decode cX8_without 178 = .ok (.imul, 1) := by decide +kernel
theorem dX8_without_179 : decode cX8_without 179 = .ok (.iload 8, 2) := by decide +kernel
theorem dX8_without_181 : decode cX8_without 181 = .ok (.iadd, 1) := by decide +kernel
theorem dX8_without_182 : decode cX8_without 182 = .ok (.lload 9, 2) := by decide +kernel
theorem dX8_without_184 : decode cX8_without 184 = .ok (.lastore, 1) := by decide +kernel
theorem dX8_without_185 : decode cX8_without 185 = .ok (.iinc 8 1, 3) := by decide +kernel
theorem dX8_without_188 : decode cX8_without 188 = .ok (.goto (-68), 3) := by decide +kernel
theorem dX8_without_191 : decode cX8_without 191 = .ok (.iload 7, 2) := by decide +kernel
theorem dX8_without_193 : decode cX8_without 193 = .ok (.iload 6, 2) := by decide +kernel
theorem dX8_without_195 : decode cX8_without 195 = .ok (.if_icmp .eq 9, 3) := by decide +kernel
theorem dX8_without_198 : decode cX8_without 198 = .ok (.lload 4, 2) := by decide +kernel
theorem dX8_without_200 : decode cX8_without 200 = .ok (.lneg, 1) := by decide +kernel
theorem dX8_without_201 : decode cX8_without 201 = .ok (.goto 5, 3) := by decide +kernel
theorem dX8_without_204 : decode cX8_without 204 = .ok (.lload 4, 2) := by decide +kernel
theorem dX8_without_206 : decode cX8_without 206 = .ok (.lstore 4, 2) := by decide +kernel
theorem dX8_without_208 : decode cX8_without 208 = .ok (.iload 6, 2) := by decide +kernel
theorem dX8_without_210 : decode cX8_without 210 = .ok (.iconst 1, 1) := by decide +kernel
theorem dX8_without_211 : decode cX8_without 211 = .ok (.iadd, 1) := by decide +kernel
theorem dX8_without_212 : decode cX8_without 212 = .ok (.istore 8, 2) := by decide +kernel
theorem dX8_without_214 : decode cX8_without 214 = .ok (.iload 8, 2) := by decide +kernel
theorem dX8_without_216 : decode cX8_without 216 = .ok (.iconst 5, 1) := by decide +kernel
theorem dX8_without_217 : decode cX8_without 217 = .ok (.if_icmp .ge 92, 3) := by decide +kernel
theorem dX8_without_220 : decode cX8_without 220 = .ok (.iload 6, 2) := by decide +kernel
theorem dX8_without_222 : decode cX8_without 222 = .ok (.iconst 1, 1) := by decide +kernel
theorem dX8_without_223 : decode cX8_without 223 = .ok (.iadd, 1) := by decide +kernel
theorem dX8_without_224 : decode cX8_without 224 = .ok (.istore 9, 2) := by decide +kernel
theorem dX8_without_226 : decode cX8_without 226 = .ok (.iload 9, 2) := by decide +kernel
theorem dX8_without_228 : decode cX8_without 228 = .ok (.iconst 5, 1) := by decide +kernel
theorem dX8_without_229 : decode cX8_without 229 = .ok (.if_icmp .ge 74, 3) := by decide +kernel
theorem dX8_without_232 : decode cX8_without 232 = .ok (.aload_n 0, 1) := by decide +kernel
theorem dX8_without_233 : decode cX8_without 233 = .ok (.getfield 45, 3) := by decide +kernel
theorem dX8_without_236 : decode cX8_without 236 = .ok (.iconst 5, 1) := by decide +kernel
theorem dX8_without_237 : decode cX8_without 237 = .ok (.iload 8, 2) := by decide +kernel
theorem dX8_without_239 : decode cX8_without 239 = .ok (.imul, 1) := by decide +kernel
theorem dX8_without_240 : decode cX8_without 240 = .ok (.iload 9, 2) := by decide +kernel
theorem dX8_without_242 : decode cX8_without 242 = .ok (.iadd, 1) := by decide +kernel
theorem dX8_without_243 : decode cX8_without 243 = .ok (.aload_n 0, 1) := by decide +kernel
theorem dX8_without_244 : decode cX8_without 244 = .ok (.getfield 45, 3) := by decide +kernel
theorem dX8_without_247 : decode cX8_without 247 = .ok (.iconst 5, 1) := by decide +kernel
theorem dX8_without_248 : decode cX8_without 248 = .ok (.iload 8, 2) := by decide +kernel
theorem dX8_without_250 : decode cX8_without 250 = .ok (.imul, 1) := by decide +kernel
theorem dX8_without_251 : decode cX8_without 251 = .ok (.iload 9, 2) := by decide +kernel
theorem dX8_without_253 : decode cX8_without 253 = .ok (.iadd, 1) := by decide +kernel
theorem dX8_without_254 : decode cX8_without 254 = .ok (.laload, 1) := by decide +kernel
theorem dX8_without_255 : decode cX8_without 255 = .ok (.aload_n 0, 1) := by decide +kernel
theorem dX8_without_256 : decode cX8_without 256 = .ok (.getfield 45, 3) := by decide +kernel
theorem dX8_without_259 : decode cX8_without 259 = .ok (.iconst 5, 1) := by decide +kernel
theorem dX8_without_260 : decode cX8_without 260 = .ok (.iload 6, 2) := by decide +kernel
theorem dX8_without_262 : decode cX8_without 262 = .ok (.imul, 1) := by decide +kernel
theorem dX8_without_263 : decode cX8_without 263 = .ok (.iload 6, 2) := by decide +kernel
theorem dX8_without_265 : decode cX8_without 265 = .ok (.iadd, 1) := by decide +kernel
theorem dX8_without_266 : decode cX8_without 266 = .ok (.laload, 1) := by decide +kernel
theorem dX8_without_267 : decode cX8_without 267 = .ok (.lmul, 1) := by decide +kernel
theorem dX8_without_268 : decode cX8_without 268 = .ok (.aload_n 0, 1) := by decide +kernel
theorem dX8_without_269 : decode cX8_without 269 = .ok (.getfield 45, 3) := by decide +kernel
theorem dX8_without_272 : decode cX8_without 272 = .ok (.iconst 5, 1) := by decide +kernel
theorem dX8_without_273 : decode cX8_without 273 = .ok (.iload 8, 2) := by decide +kernel
theorem dX8_without_275 : decode cX8_without 275 = .ok (.imul, 1) := by decide +kernel
theorem dX8_without_276 : decode cX8_without 276 = .ok (.iload 6, 2) := by decide +kernel
theorem dX8_without_278 : decode cX8_without 278 = .ok (.iadd, 1) := by decide +kernel
theorem dX8_without_279 : decode cX8_without 279 = .ok (.laload, 1) := by decide +kernel
theorem dX8_without_280 : decode cX8_without 280 = .ok (.aload_n 0, 1) := by decide +kernel
theorem dX8_without_281 : decode cX8_without 281 = .ok (.getfield 45, 3) := by decide +kernel
theorem dX8_without_284 : decode cX8_without 284 = .ok (.iconst 5, 1) := by decide +kernel
theorem dX8_without_285 : decode cX8_without 285 = .ok (.iload 6, 2) := by decide +kernel
theorem dX8_without_287 : decode cX8_without 287 = .ok (.imul, 1) := by decide +kernel
theorem dX8_without_288 : decode cX8_without 288 = .ok (.iload 9, 2) := by decide +kernel
theorem dX8_without_290 : decode cX8_without 290 = .ok (.iadd, 1) := by decide +kernel
theorem dX8_without_291 : decode cX8_without 291 = .ok (.laload, 1) := by decide +kernel
theorem dX8_without_292 : decode cX8_without 292 = .ok (.lmul, 1) := by decide +kernel
theorem dX8_without_293 : decode cX8_without 293 = .ok (.lsub, 1) := by decide +kernel
theorem dX8_without_294 : decode cX8_without 294 = .ok (.lload_n 2, 1) := by decide +kernel
theorem dX8_without_295 : decode cX8_without 295 = .ok (.ldiv, 1) := by decide +kernel
theorem dX8_without_296 : decode cX8_without 296 = .ok (.lastore, 1) := by decide +kernel
theorem dX8_without_297 : decode cX8_without 297 = .ok (.iinc 9 1, 3) := by decide +kernel
theorem dX8_without_300 : decode cX8_without 300 = .ok (.goto (-74), 3) := by decide +kernel
theorem dX8_without_303 : decode cX8_without 303 = .ok (.iinc 8 1, 3) := by decide +kernel
theorem dX8_without_306 : decode cX8_without 306 = .ok (.goto (-92), 3) := by decide +kernel
theorem dX8_without_309 : decode cX8_without 309 = .ok (.aload_n 0, 1) := by decide +kernel
theorem dX8_without_310 : decode cX8_without 310 = .ok (.getfield 45, 3) := by decide +kernel
theorem dX8_without_313 : decode cX8_without 313 = .ok (.iconst 5, 1) := by decide +kernel
theorem dX8_without_314 : decode cX8_without 314 = .ok (.iload 6, 2) := by decide +kernel
theorem dX8_without_316 : decode cX8_without 316 = .ok (.imul, 1) := by decide +kernel
theorem dX8_without_317 : decode cX8_without 317 = .ok (.iload 6, 2) := by decide +kernel
theorem dX8_without_319 : decode cX8_without 319 = .ok (.iadd, 1) := by decide +kernel
theorem dX8_without_320 : decode cX8_without 320 = .ok (.laload, 1) := by decide +kernel
theorem dX8_without_321 : decode cX8_without 321 = .ok (.lstore_n 2, 1) := by decide +kernel
theorem dX8_without_322 : decode cX8_without 322 = .ok (.iinc 6 1, 3) := by decide +kernel
theorem dX8_without_325 : decode cX8_without 325 = .ok (.goto (-255), 3) := by decide +kernel
theorem dX8_without_328 : decode cX8_without 328 = .ok (.lload 4, 2) := by decide +kernel
theorem dX8_without_330 : decode cX8_without 330 = .ok (.aload_n 0, 1) := by decide +kernel
theorem dX8_without_331 : decode cX8_without 331 = .ok (.getfield 45, 3) := by decide +kernel
theorem dX8_without_334 : decode cX8_without 334 = .ok (.bipush 24, 2) := by decide +kernel
theorem dX8_without_336 : decode cX8_without 336 = .ok (.laload, 1) := by decide +kernel
theorem dX8_without_337 : decode cX8_without 337 = .ok (.lmul, 1) := by decide +kernel
theorem dX8_without_338 : decode cX8_without 338 = .ok (.lreturn, 1) := by decide +kernel
set_option maxRecDepth 20000 in
theorem ggX8_findLaw_X8_without : GoodIn wsX8_findLaw wsX8_without := goodIn_r _ [9, 10, 1, 14, 15, 16, 17, 18, 19, 20, 21, 22, 23, 24, 25, 26, 27, 28, 29, 30, 31, 32] rfl (by decide +kernel)
set_option maxRecDepth 20000 in
theorem gX8_findLaw_X8_without : GoodIn wsX8_findLaw (wsV RX8 206 RX8 yX8_without wsX8_without) := goodIn_app (goodIn_of _ (by decide +kernel)) ggX8_findLaw_X8_without
set_option maxRecDepth 20000 in
theorem ggX8_findLaw_X8_common : GoodIn wsX8_findLaw wsX8_common := goodIn_r _ [13] rfl (by decide +kernel)
set_option maxRecDepth 20000 in
theorem gX8_findLaw_X8_common : GoodIn wsX8_findLaw (va_wsS RX8 63 yX8_common wsX8_common) := goodIn_app (goodIn_of _ (by decide +kernel)) ggX8_findLaw_X8_common
theorem dX8_findLaw_0 : decode cX8_findLaw 0 = .ok (.iconst 0, 1) := by decide +kernel
theorem dX8_findLaw_1 : decode cX8_findLaw 1 = .ok (.istore_n 2, 1) := by decide +kernel
theorem dX8_findLaw_2 : decode cX8_findLaw 2 = .ok (.iload_n 2, 1) := by decide +kernel
theorem dX8_findLaw_3 : decode cX8_findLaw 3 = .ok (.iconst 5, 1) := by decide +kernel
theorem dX8_findLaw_4 : decode cX8_findLaw 4 = .ok (.if_icmp .ge 97, 3) := by decide +kernel
theorem dX8_findLaw_7 : decode cX8_findLaw 7 = .ok (.iconst 0, 1) := by decide +kernel
theorem dX8_findLaw_8 : decode cX8_findLaw 8 = .ok (.istore_n 3, 1) := by decide +kernel
theorem dX8_findLaw_9 : decode cX8_findLaw 9 = .ok (.iload_n 3, 1) := by decide +kernel
theorem dX8_findLaw_10 : decode cX8_findLaw 10 = .ok (.iconst 3, 1) := by decide +kernel
theorem dX8_findLaw_11 : decode cX8_findLaw 11 = .ok (.if_icmp .ge 84, 3) := by decide +kernel
theorem dX8_findLaw_14 : decode cX8_findLaw 14 = .ok (.bipush 12, 2) := by decide +kernel
theorem dX8_findLaw_16 : decode cX8_findLaw 16 = .ok (.iload_n 1, 1) := by decide +kernel
theorem dX8_findLaw_17 : decode cX8_findLaw 17 = .ok (.imul, 1) := by decide +kernel
theorem dX8_findLaw_18 : decode cX8_findLaw 18 = .ok (.iconst 4, 1) := by decide +kernel
theorem dX8_findLaw_19 : decode cX8_findLaw 19 = .ok (.iload_n 3, 1) := by decide +kernel
theorem dX8_findLaw_20 : decode cX8_findLaw 20 = .ok (.imul, 1) := by decide +kernel
theorem dX8_findLaw_21 : decode cX8_findLaw 21 = .ok (.iadd, 1) := by decide +kernel
theorem dX8_findLaw_22 : decode cX8_findLaw 22 = .ok (.istore 4, 2) := by decide +kernel
theorem dX8_findLaw_24 : decode cX8_findLaw 24 = .ok (.aload_n 0, 1) := by decide +kernel
theorem dX8_findLaw_25 : decode cX8_findLaw 25 = .ok (.getfield 42, 3) := by decide +kernel
theorem dX8_findLaw_28 : decode cX8_findLaw 28 = .ok (.bipush 6, 2) := by decide +kernel
theorem dX8_findLaw_30 : decode cX8_findLaw 30 = .ok (.iload_n 2, 1) := by decide +kernel
theorem dX8_findLaw_31 : decode cX8_findLaw 31 = .ok (.imul, 1) := by decide +kernel
theorem dX8_findLaw_32 : decode cX8_findLaw 32 = .ok (.iconst 2, 1) := by decide +kernel
theorem dX8_findLaw_33 : decode cX8_findLaw 33 = .ok (.iload_n 3, 1) := by decide +kernel
theorem dX8_findLaw_34 : decode cX8_findLaw 34 = .ok (.imul, 1) := by decide +kernel
theorem dX8_findLaw_35 : decode cX8_findLaw 35 = .ok (.iadd, 1) := by decide +kernel
theorem dX8_findLaw_36 : decode cX8_findLaw 36 = .ok (.iload_n 2, 1) := by decide +kernel
theorem dX8_findLaw_37 : decode cX8_findLaw 37 = .ok (.ifCond .le 17, 3) := by decide +kernel
theorem dX8_findLaw_40 : decode cX8_findLaw 40 = .ok (.aload_n 0, 1) := by decide +kernel
theorem dX8_findLaw_41 : decode cX8_findLaw 41 = .ok (.getfield 13, 3) := by decide +kernel
theorem dX8_findLaw_44 : decode cX8_findLaw 44 = .ok (.iload 4, 2) := by decide +kernel
theorem dX8_findLaw_46 : decode cX8_findLaw 46 = .ok (.iload_n 2, 1) := by decide +kernel
theorem dX8_findLaw_47 : decode cX8_findLaw 47 = .ok (.iadd, 1) := by decide +kernel
theorem dX8_findLaw_48 : decode cX8_findLaw 48 = .ok (.iconst 1, 1) := by decide +kernel
theorem dX8_findLaw_49 : decode cX8_findLaw 49 = .ok (.isub, 1) := by decide +kernel
theorem dX8_findLaw_50 : decode cX8_findLaw 50 = .ok (.laload, 1) := by decide +kernel
theorem dX8_findLaw_51 : decode cX8_findLaw 51 = .ok (.goto 4, 3) := by decide +kernel
theorem dX8_findLaw_54 : decode cX8_findLaw 54 = .ok (.lconst 0, 1) := by decide +kernel
theorem dX8_findLaw_55 : decode cX8_findLaw 55 = .ok (.lastore, 1) := by decide +kernel
theorem dX8_findLaw_56 : decode cX8_findLaw 56 = .ok (.aload_n 0, 1) := by decide +kernel
theorem dX8_findLaw_57 : decode cX8_findLaw 57 = .ok (.getfield 42, 3) := by decide +kernel
theorem dX8_findLaw_60 : decode cX8_findLaw 60 = .ok (.bipush 6, 2) := by decide +kernel
theorem dX8_findLaw_62 : decode cX8_findLaw 62 = .ok (.iload_n 2, 1) := by decide +kernel
theorem dX8_findLaw_63 : decode cX8_findLaw 63 = .ok (.imul, 1) := by decide +kernel
theorem dX8_findLaw_64 : decode cX8_findLaw 64 = .ok (.iconst 2, 1) := by decide +kernel
theorem dX8_findLaw_65 : decode cX8_findLaw 65 = .ok (.iload_n 3, 1) := by decide +kernel
theorem dX8_findLaw_66 : decode cX8_findLaw 66 = .ok (.imul, 1) := by decide +kernel
theorem dX8_findLaw_67 : decode cX8_findLaw 67 = .ok (.iadd, 1) := by decide +kernel
theorem dX8_findLaw_68 : decode cX8_findLaw 68 = .ok (.iconst 1, 1) := by decide +kernel
theorem dX8_findLaw_69 : decode cX8_findLaw 69 = .ok (.iadd, 1) := by decide +kernel
theorem dX8_findLaw_70 : decode cX8_findLaw 70 = .ok (.iload_n 2, 1) := by decide +kernel
theorem dX8_findLaw_71 : decode cX8_findLaw 71 = .ok (.iconst 4, 1) := by decide +kernel
theorem dX8_findLaw_72 : decode cX8_findLaw 72 = .ok (.if_icmp .ge 15, 3) := by decide +kernel
theorem dX8_findLaw_75 : decode cX8_findLaw 75 = .ok (.aload_n 0, 1) := by decide +kernel
theorem dX8_findLaw_76 : decode cX8_findLaw 76 = .ok (.getfield 13, 3) := by decide +kernel
theorem dX8_findLaw_79 : decode cX8_findLaw 79 = .ok (.iload 4, 2) := by decide +kernel
theorem dX8_findLaw_81 : decode cX8_findLaw 81 = .ok (.iload_n 2, 1) := by decide +kernel
theorem dX8_findLaw_82 : decode cX8_findLaw 82 = .ok (.iadd, 1) := by decide +kernel
theorem dX8_findLaw_83 : decode cX8_findLaw 83 = .ok (.laload, 1) := by decide +kernel
theorem dX8_findLaw_84 : decode cX8_findLaw 84 = .ok (.goto 4, 3) := by decide +kernel
theorem dX8_findLaw_87 : decode cX8_findLaw 87 = .ok (.lconst 0, 1) := by decide +kernel
theorem dX8_findLaw_88 : decode cX8_findLaw 88 = .ok (.lastore, 1) := by decide +kernel
theorem dX8_findLaw_89 : decode cX8_findLaw 89 = .ok (.iinc 3 1, 3) := by decide +kernel
theorem dX8_findLaw_92 : decode cX8_findLaw 92 = .ok (.goto (-83), 3) := by decide +kernel
theorem dX8_findLaw_95 : decode cX8_findLaw 95 = .ok (.iinc 2 1, 3) := by decide +kernel
theorem dX8_findLaw_98 : decode cX8_findLaw 98 = .ok (.goto (-96), 3) := by decide +kernel
theorem dX8_findLaw_101 : decode cX8_findLaw 101 = .ok (.lconst 0, 1) := by decide +kernel
theorem dX8_findLaw_102 : decode cX8_findLaw 102 = .ok (.lstore_n 2, 1) := by decide +kernel
theorem dX8_findLaw_103 : decode cX8_findLaw 103 = .ok (.lconst 0, 1) := by decide +kernel
theorem dX8_findLaw_104 : decode cX8_findLaw 104 = .ok (.lstore 4, 2) := by decide +kernel
theorem dX8_findLaw_106 : decode cX8_findLaw 106 = .ok (.iconst 0, 1) := by decide +kernel
theorem dX8_findLaw_107 : decode cX8_findLaw 107 = .ok (.istore 6, 2) := by decide +kernel
theorem dX8_findLaw_109 : decode cX8_findLaw 109 = .ok (.iload 6, 2) := by decide +kernel
theorem dX8_findLaw_111 : decode cX8_findLaw 111 = .ok (.bipush 6, 2) := by decide +kernel
theorem dX8_findLaw_113 : decode cX8_findLaw 113 = .ok (.if_icmp .ge 70, 3) := by decide +kernel
theorem dX8_findLaw_116 : decode cX8_findLaw 116 = .ok (.aload_n 0, 1) := by decide +kernel
theorem dX8_findLaw_117 : decode cX8_findLaw 117 = .ok (.getfield 48, 3) := by decide +kernel
theorem dX8_findLaw_120 : decode cX8_findLaw 120 = .ok (.iload 6, 2) := by decide +kernel
theorem dX8_findLaw_122 : decode cX8_findLaw 122 = .ok (.aload_n 0, 1) := by decide +kernel
theorem dX8_findLaw_123 : decode cX8_findLaw 123 = .ok (.iload 6, 2) := by decide +kernel
theorem dX8_findLaw_125 : decode cX8_findLaw 125 = .ok (.invokevirtual 206, 3) := by decide +kernel
theorem dX8_findLaw_128 : decode cX8_findLaw 128 = .ok (.iload 6, 2) := by decide +kernel
theorem dX8_findLaw_130 : decode cX8_findLaw 130 = .ok (.iconst 2, 1) := by decide +kernel
theorem dX8_findLaw_131 : decode cX8_findLaw 131 = .ok (.irem, 1) := by decide +kernel
theorem dX8_findLaw_132 : decode cX8_findLaw 132 = .ok (.ifCond .ne 7, 3) := by decide +kernel
theorem dX8_findLaw_135 : decode cX8_findLaw 135 = .ok (.lconst 1, 1) := by decide +kernel
theorem dX8_findLaw_136 : decode cX8_findLaw 136 = .ok (.goto 6, 3) := by decide +kernel
theorem dX8_findLaw_139 : decode cX8_findLaw 139 = .ok (.ldc2_w 195, 3) := by decide +kernel
theorem dX8_findLaw_142 : decode cX8_findLaw 142 = .ok (.lmul, 1) := by decide +kernel
theorem dX8_findLaw_143 : decode cX8_findLaw 143 = .ok (.lastore, 1) := by decide +kernel
theorem dX8_findLaw_144 : decode cX8_findLaw 144 = .ok (.lload_n 2, 1) := by decide +kernel
theorem dX8_findLaw_145 : decode cX8_findLaw 145 = .ok (.aload_n 0, 1) := by decide +kernel
theorem dX8_findLaw_146 : decode cX8_findLaw 146 = .ok (.getfield 48, 3) := by decide +kernel
theorem dX8_findLaw_149 : decode cX8_findLaw 149 = .ok (.iload 6, 2) := by decide +kernel
theorem dX8_findLaw_151 : decode cX8_findLaw 151 = .ok (.laload, 1) := by decide +kernel
theorem dX8_findLaw_152 : decode cX8_findLaw 152 = .ok (.invokestatic 63, 3) := by decide +kernel
theorem dX8_findLaw_155 : decode cX8_findLaw 155 = .ok (.lstore_n 2, 1) := by decide +kernel
theorem dX8_findLaw_156 : decode cX8_findLaw 156 = .ok (.lload 4, 2) := by decide +kernel
theorem dX8_findLaw_158 : decode cX8_findLaw 158 = .ok (.lconst 0, 1) := by decide +kernel
theorem dX8_findLaw_159 : decode cX8_findLaw 159 = .ok (.lcmp, 1) := by decide +kernel
theorem dX8_findLaw_160 : decode cX8_findLaw 160 = .ok (.ifCond .ne 13, 3) := by decide +kernel
theorem dX8_findLaw_163 : decode cX8_findLaw 163 = .ok (.aload_n 0, 1) := by decide +kernel
theorem dX8_findLaw_164 : decode cX8_findLaw 164 = .ok (.getfield 48, 3) := by decide +kernel
theorem dX8_findLaw_167 : decode cX8_findLaw 167 = .ok (.iload 6, 2) := by decide +kernel
theorem dX8_findLaw_169 : decode cX8_findLaw 169 = .ok (.laload, 1) := by decide +kernel
theorem dX8_findLaw_170 : decode cX8_findLaw 170 = .ok (.goto 5, 3) := by decide +kernel
theorem dX8_findLaw_173 : decode cX8_findLaw 173 = .ok (.lload 4, 2) := by decide +kernel
theorem dX8_findLaw_175 : decode cX8_findLaw 175 = .ok (.lstore 4, 2) := by decide +kernel
theorem dX8_findLaw_177 : decode cX8_findLaw 177 = .ok (.iinc 6 1, 3) := by decide +kernel
theorem dX8_findLaw_180 : decode cX8_findLaw 180 = .ok (.goto (-71), 3) := by decide +kernel
theorem dX8_findLaw_183 : decode cX8_findLaw 183 = .ok (.lload 4, 2) := by decide +kernel
theorem dX8_findLaw_185 : decode cX8_findLaw 185 = .ok (.lconst 0, 1) := by decide +kernel
theorem dX8_findLaw_186 : decode cX8_findLaw 186 = .ok (.lcmp, 1) := by decide +kernel
theorem dX8_findLaw_187 : decode cX8_findLaw 187 = .ok (.ifCond .ge 8, 3) := by decide +kernel
theorem dX8_findLaw_190 : decode cX8_findLaw 190 = .ok (.lload_n 2, 1) := by decide +kernel
theorem dX8_findLaw_191 : decode cX8_findLaw 191 = .ok (.lneg, 1) := by decide +kernel
theorem dX8_findLaw_192 : decode cX8_findLaw 192 = .ok (.goto 4, 3) := by decide +kernel
theorem dX8_findLaw_195 : decode cX8_findLaw 195 = .ok (.lload_n 2, 1) := by decide +kernel
theorem dX8_findLaw_196 : decode cX8_findLaw 196 = .ok (.lstore_n 2, 1) := by decide +kernel
theorem dX8_findLaw_197 : decode cX8_findLaw 197 = .ok (.iconst 0, 1) := by decide +kernel
theorem dX8_findLaw_198 : decode cX8_findLaw 198 = .ok (.istore 6, 2) := by decide +kernel
theorem dX8_findLaw_200 : decode cX8_findLaw 200 = .ok (.iload 6, 2) := by decide +kernel
theorem dX8_findLaw_202 : decode cX8_findLaw 202 = .ok (.bipush 6, 2) := by decide +kernel
theorem dX8_findLaw_204 : decode cX8_findLaw 204 = .ok (.if_icmp .ge 20, 3) := by decide +kernel
theorem dX8_findLaw_207 : decode cX8_findLaw 207 = .ok (.aload_n 0, 1) := by decide +kernel
theorem dX8_findLaw_208 : decode cX8_findLaw 208 = .ok (.getfield 48, 3) := by decide +kernel
theorem dX8_findLaw_211 : decode cX8_findLaw 211 = .ok (.iload 6, 2) := by decide +kernel
theorem dX8_findLaw_213 : decode cX8_findLaw 213 = .ok (.dup2, 1) := by decide +kernel
theorem dX8_findLaw_214 : decode cX8_findLaw 214 = .ok (.laload, 1) := by decide +kernel
theorem dX8_findLaw_215 : decode cX8_findLaw 215 = .ok (.lload_n 2, 1) := by decide +kernel
theorem dX8_findLaw_216 : decode cX8_findLaw 216 = .ok (.ldiv, 1) := by decide +kernel
theorem dX8_findLaw_217 : decode cX8_findLaw 217 = .ok (.lastore, 1) := by decide +kernel
theorem dX8_findLaw_218 : decode cX8_findLaw 218 = .ok (.iinc 6 1, 3) := by decide +kernel
theorem dX8_findLaw_221 : decode cX8_findLaw 221 = .ok (.goto (-21), 3) := by decide +kernel
theorem dX8_findLaw_224 : decode cX8_findLaw 224 = .ok (.return_, 1) := by decide +kernel
set_option maxRecDepth 20000 in
theorem ggX8_findKnot_X8_findLaw : GoodIn wsX8_findKnot wsX8_findLaw := goodIn_r _ [8, 9, 10, 1, 11, 12, 13, 14, 7, 15, 16, 17, 18, 19, 28, 29, 30, 31, 32, 33, 34, 35, 36, 37, 38, 39, 40, 41, 42, 43, 44, 45, 46] rfl (by decide +kernel)
set_option maxRecDepth 20000 in
theorem gX8_findKnot_X8_findLaw : GoodIn wsX8_findKnot (wsV RX8 210 RX8 yX8_findLaw wsX8_findLaw) := goodIn_app (goodIn_of _ (by decide +kernel)) ggX8_findKnot_X8_findLaw
set_option maxRecDepth 20000 in
theorem ggX8_findKnot_X8_cross : GoodIn wsX8_findKnot wsX8_cross := goodIn_r _ [23, 3, 28, 29, 30, 31, 32, 33, 34, 35, 36, 37, 38, 39, 40, 41, 42, 43, 44, 45, 46] rfl (by decide +kernel)
set_option maxRecDepth 20000 in
theorem gX8_findKnot_X8_cross : GoodIn wsX8_findKnot (wsV RX8 107 RX8 yX8_cross wsX8_cross) := goodIn_app (goodIn_of _ (by decide +kernel)) ggX8_findKnot_X8_cross
set_option maxRecDepth 20000 in
theorem ggX8_findKnot_X8_tidy : GoodIn wsX8_findKnot wsX8_tidy := goodIn_r _ [27, 2, 17, 18, 7, 19, 28, 29, 30, 31, 32, 33, 34, 35, 36, 37, 38, 39, 40, 41, 42, 43, 44, 45, 46] rfl (by decide +kernel)
set_option maxRecDepth 20000 in
theorem gX8_findKnot_X8_tidy : GoodIn wsX8_findKnot (wsV RX8 213 RX8 yX8_tidy wsX8_tidy) := goodIn_app (goodIn_of _ (by decide +kernel)) ggX8_findKnot_X8_tidy
theorem dX8_findKnot_0 : decode cX8_findKnot 0 = .ok (.aload_n 0, 1) := by decide +kernel
theorem dX8_findKnot_1 : decode cX8_findKnot 1 = .ok (.iload_n 1, 1) := by decide +kernel
theorem dX8_findKnot_2 : decode cX8_findKnot 2 = .ok (.invokevirtual 210, 3) := by decide +kernel
theorem dX8_findKnot_5 : decode cX8_findKnot 5 = .ok (.aload_n 0, 1) := by decide +kernel
theorem dX8_findKnot_6 : decode cX8_findKnot 6 = .ok (.aload_n 0, 1) := by decide +kernel
theorem dX8_findKnot_7 : decode cX8_findKnot 7 = .ok (.getfield 48, 3) := by decide +kernel
theorem dX8_findKnot_10 : decode cX8_findKnot 10 = .ok (.iconst 0, 1) := by decide +kernel
theorem dX8_findKnot_11 : decode cX8_findKnot 11 = .ok (.laload, 1) := by decide +kernel
theorem dX8_findKnot_12 : decode cX8_findKnot 12 = .ok (.aload_n 0, 1) := by decide +kernel
theorem dX8_findKnot_13 : decode cX8_findKnot 13 = .ok (.getfield 48, 3) := by decide +kernel
theorem dX8_findKnot_16 : decode cX8_findKnot 16 = .ok (.iconst 2, 1) := by decide +kernel
theorem dX8_findKnot_17 : decode cX8_findKnot 17 = .ok (.laload, 1) := by decide +kernel
theorem dX8_findKnot_18 : decode cX8_findKnot 18 = .ok (.aload_n 0, 1) := by decide +kernel
theorem dX8_findKnot_19 : decode cX8_findKnot 19 = .ok (.getfield 48, 3) := by decide +kernel
theorem dX8_findKnot_22 : decode cX8_findKnot 22 = .ok (.iconst 4, 1) := by decide +kernel
theorem dX8_findKnot_23 : decode cX8_findKnot 23 = .ok (.laload, 1) := by decide +kernel
theorem dX8_findKnot_24 : decode cX8_findKnot 24 = .ok (.aload_n 0, 1) := by decide +kernel
theorem dX8_findKnot_25 : decode cX8_findKnot 25 = .ok (.getfield 48, 3) := by decide +kernel
theorem dX8_findKnot_28 : decode cX8_findKnot 28 = .ok (.iconst 1, 1) := by decide +kernel
theorem dX8_findKnot_29 : decode cX8_findKnot 29 = .ok (.laload, 1) := by decide +kernel
theorem dX8_findKnot_30 : decode cX8_findKnot 30 = .ok (.aload_n 0, 1) := by decide +kernel
theorem dX8_findKnot_31 : decode cX8_findKnot 31 = .ok (.getfield 48, 3) := by decide +kernel
theorem dX8_findKnot_34 : decode cX8_findKnot 34 = .ok (.iconst 3, 1) := by decide +kernel
theorem dX8_findKnot_35 : decode cX8_findKnot 35 = .ok (.laload, 1) := by decide +kernel
theorem dX8_findKnot_36 : decode cX8_findKnot 36 = .ok (.aload_n 0, 1) := by decide +kernel
theorem dX8_findKnot_37 : decode cX8_findKnot 37 = .ok (.getfield 48, 3) := by decide +kernel
theorem dX8_findKnot_40 : decode cX8_findKnot 40 = .ok (.iconst 5, 1) := by decide +kernel
theorem dX8_findKnot_41 : decode cX8_findKnot 41 = .ok (.laload, 1) := by decide +kernel
theorem dX8_findKnot_42 : decode cX8_findKnot 42 = .ok (.invokevirtual 107, 3) := by decide +kernel
theorem dX8_findKnot_45 : decode cX8_findKnot 45 = .ok (.iconst 0, 1) := by decide +kernel
theorem dX8_findKnot_46 : decode cX8_findKnot 46 = .ok (.istore_n 2, 1) := by decide +kernel
theorem dX8_findKnot_47 : decode cX8_findKnot 47 = .ok (.iload_n 2, 1) := by decide +kernel
theorem dX8_findKnot_48 : decode cX8_findKnot 48 = .ok (.iconst 3, 1) := by decide +kernel
theorem dX8_findKnot_49 : decode cX8_findKnot 49 = .ok (.if_icmp .ge 21, 3) := by decide +kernel
theorem dX8_findKnot_52 : decode cX8_findKnot 52 = .ok (.aload_n 0, 1) := by decide +kernel
theorem dX8_findKnot_53 : decode cX8_findKnot 53 = .ok (.getfield 33, 3) := by decide +kernel
theorem dX8_findKnot_56 : decode cX8_findKnot 56 = .ok (.iload_n 2, 1) := by decide +kernel
theorem dX8_findKnot_57 : decode cX8_findKnot 57 = .ok (.aload_n 0, 1) := by decide +kernel
theorem dX8_findKnot_58 : decode cX8_findKnot 58 = .ok (.getfield 26, 3) := by decide +kernel
theorem dX8_findKnot_61 : decode cX8_findKnot 61 = .ok (.iload_n 2, 1) := by decide +kernel
theorem dX8_findKnot_62 : decode cX8_findKnot 62 = .ok (.laload, 1) := by decide +kernel
theorem dX8_findKnot_63 : decode cX8_findKnot 63 = .ok (.lastore, 1) := by decide +kernel
theorem dX8_findKnot_64 : decode cX8_findKnot 64 = .ok (.iinc 2 1, 3) := by decide +kernel
theorem dX8_findKnot_67 : decode cX8_findKnot 67 = .ok (.goto (-20), 3) := by decide +kernel
theorem dX8_findKnot_70 : decode cX8_findKnot 70 = .ok (.aload_n 0, 1) := by decide +kernel
theorem dX8_findKnot_71 : decode cX8_findKnot 71 = .ok (.iconst 1, 1) := by decide +kernel
theorem dX8_findKnot_72 : decode cX8_findKnot 72 = .ok (.invokevirtual 213, 3) := by decide +kernel
theorem dX8_findKnot_75 : decode cX8_findKnot 75 = .ok (.return_, 1) := by decide +kernel
set_option maxRecDepth 20000 in
theorem ggX8_againstCubic_X8_against : GoodIn wsX8_againstCubic wsX8_against := goodIn_r _ [5, 6, 7, 8, 4, 9, 10, 11, 12, 13, 39, 40, 41, 42, 43, 44, 45, 46, 47, 48, 49, 50, 51, 52, 53, 54, 55, 56, 57] rfl (by decide +kernel)
set_option maxRecDepth 20000 in
theorem gX8_againstCubic_X8_against : GoodIn wsX8_againstCubic (wsV RX8 163 RX8 yX8_against wsX8_against) := goodIn_app (goodIn_of _ (by decide +kernel)) ggX8_againstCubic_X8_against
set_option maxRecDepth 20000 in
theorem ggX8_againstCubic_X8_kindOf : GoodIn wsX8_againstCubic wsX8_kindOf := goodIn_r _ [17, 18, 19, 20, 4, 21, 22, 23, 24, 25, 26, 27, 28, 29, 30, 31, 32, 33, 34, 35, 36, 37, 38, 39, 40, 41, 42, 43, 44, 45, 46, 47, 48, 49, 50, 51, 52, 53, 54, 55, 56, 57] rfl (by decide +kernel)
set_option maxRecDepth 20000 in
theorem gX8_againstCubic_X8_kindOf : GoodIn wsX8_againstCubic (wsV RX8 103 RX8 yX8_kindOf wsX8_kindOf) := goodIn_app (goodIn_of _ (by decide +kernel)) ggX8_againstCubic_X8_kindOf
theorem dX8_againstCubic_0 : decode cX8_againstCubic 0 = .ok (.aload_n 0, 1) := by decide +kernel
theorem dX8_againstCubic_1 : decode cX8_againstCubic 1 = .ok (.iload_n 1, 1) := by decide +kernel
theorem dX8_againstCubic_2 : decode cX8_againstCubic 2 = .ok (.invokevirtual 163, 3) := by decide +kernel
theorem dX8_againstCubic_5 : decode cX8_againstCubic 5 = .ok (.istore_n 2, 1) := by decide +kernel
theorem dX8_againstCubic_6 : decode cX8_againstCubic 6 = .ok (.iload_n 2, 1) := by decide +kernel
theorem dX8_againstCubic_7 : decode cX8_againstCubic 7 = .ok (.ifCond .ge 7, 3) := by decide +kernel
theorem dX8_againstCubic_10 : decode cX8_againstCubic 10 = .ok (.iload_n 2, 1) := by decide +kernel
theorem dX8_againstCubic_11 : decode cX8_againstCubic 11 = .ok (.goto 18, 3) := by decide +kernel
theorem dX8_againstCubic_14 : decode cX8_againstCubic 14 = .ok (.aload_n 0, 1) := by decide +kernel
theorem dX8_againstCubic_15 : decode cX8_againstCubic 15 = .ok (.iload_n 1, 1) := by decide +kernel
theorem dX8_againstCubic_16 : decode cX8_againstCubic 16 = .ok (.invokevirtual 103, 3) := by decide +kernel
theorem dX8_againstCubic_19 : decode cX8_againstCubic 19 = .ok (.iconst 3, 1) := by decide +kernel
theorem dX8_againstCubic_20 : decode cX8_againstCubic 20 = .ok (.if_icmp .ne 7, 3) := by decide +kernel
theorem dX8_againstCubic_23 : decode cX8_againstCubic 23 = .ok (.iconst 0, 1) := by decide +kernel
theorem dX8_againstCubic_24 : decode cX8_againstCubic 24 = .ok (.goto 5, 3) := by decide +kernel
theorem dX8_againstCubic_27 : decode cX8_againstCubic 27 = .ok (.bipush (-12), 2) := by decide +kernel
theorem dX8_againstCubic_29 : decode cX8_againstCubic 29 = .ok (.ireturn, 1) := by decide +kernel
set_option maxRecDepth 20000 in
theorem ggX8_law_X8_in : GoodIn wsX8_law wsX8_in := goodIn_r _ [7] rfl (by decide +kernel)
set_option maxRecDepth 20000 in
theorem gX8_law_X8_in : GoodIn wsX8_law (va_wsS RX8 79 yX8_in wsX8_in) := goodIn_app (goodIn_of _ (by decide +kernel)) ggX8_law_X8_in
set_option maxRecDepth 20000 in
theorem ggX8_law_X8_againstCubic : GoodIn wsX8_law wsX8_againstCubic := goodIn_r _ [11, 12, 13, 14, 6, 15, 16, 17, 18, 19, 20, 4, 5, 7, 21, 22, 23, 24, 25, 26, 27, 28, 29, 30, 31, 32, 33, 34, 35, 36, 37, 38, 39, 40, 41, 42, 43, 44, 45, 60, 61, 62, 63, 64, 65, 66, 67, 68, 69, 70, 71, 72, 73, 74, 75, 76, 77, 78] rfl (by decide +kernel)
set_option maxRecDepth 20000 in
theorem gX8_law_X8_againstCubic : GoodIn wsX8_law (wsV RX8 219 RX8 yX8_againstCubic wsX8_againstCubic) := goodIn_app (goodIn_of _ (by decide +kernel)) ggX8_law_X8_againstCubic
set_option maxRecDepth 20000 in
theorem ggX8_law_X8_findLaw : GoodIn wsX8_law wsX8_findLaw := goodIn_r _ [49, 50, 29, 3, 51, 52, 53, 54, 6, 55, 56, 57, 58, 59, 60, 61, 62, 63, 64, 65, 66, 67, 68, 69, 70, 71, 72, 73, 74, 75, 76, 77, 78] rfl (by decide +kernel)
set_option maxRecDepth 20000 in
theorem gX8_law_X8_findLaw : GoodIn wsX8_law (wsV RX8 210 RX8 yX8_findLaw wsX8_findLaw) := goodIn_app (goodIn_of _ (by decide +kernel)) ggX8_law_X8_findLaw
theorem dX8_law_0 : decode cX8_law 0 = .ok (.iload_n 2, 1) := by decide +kernel
theorem dX8_law_1 : decode cX8_law 1 = .ok (.i2l, 1) := by decide +kernel
theorem dX8_law_2 : decode cX8_law 2 = .ok (.lconst 0, 1) := by decide +kernel
theorem dX8_law_3 : decode cX8_law 3 = .ok (.ldc2_w 217, 3) := by decide +kernel
theorem dX8_law_6 : decode cX8_law 6 = .ok (.invokestatic 79, 3) := by decide +kernel
theorem dX8_law_9 : decode cX8_law 9 = .ok (.ifCond .ne 7, 3) := by decide +kernel
theorem dX8_law_12 : decode cX8_law 12 = .ok (.iconst (-1), 1) := by decide +kernel
theorem dX8_law_13 : decode cX8_law 13 = .ok (.goto 8, 3) := by decide +kernel
theorem dX8_law_16 : decode cX8_law 16 = .ok (.aload_n 0, 1) := by decide +kernel
theorem dX8_law_17 : decode cX8_law 17 = .ok (.iload_n 1, 1) := by decide +kernel
theorem dX8_law_18 : decode cX8_law 18 = .ok (.invokevirtual 219, 3) := by decide +kernel
theorem dX8_law_21 : decode cX8_law 21 = .ok (.istore_n 3, 1) := by decide +kernel
theorem dX8_law_22 : decode cX8_law 22 = .ok (.iload_n 3, 1) := by decide +kernel
theorem dX8_law_23 : decode cX8_law 23 = .ok (.ifCond .ge 10, 3) := by decide +kernel
theorem dX8_law_26 : decode cX8_law 26 = .ok (.iload_n 3, 1) := by decide +kernel
theorem dX8_law_27 : decode cX8_law 27 = .ok (.i2l, 1) := by decide +kernel
theorem dX8_law_28 : decode cX8_law 28 = .ok (.ldc2_w 175, 3) := by decide +kernel
theorem dX8_law_31 : decode cX8_law 31 = .ok (.lsub, 1) := by decide +kernel
theorem dX8_law_32 : decode cX8_law 32 = .ok (.lreturn, 1) := by decide +kernel
theorem dX8_law_33 : decode cX8_law 33 = .ok (.aload_n 0, 1) := by decide +kernel
theorem dX8_law_34 : decode cX8_law 34 = .ok (.iload_n 1, 1) := by decide +kernel
theorem dX8_law_35 : decode cX8_law 35 = .ok (.invokevirtual 210, 3) := by decide +kernel
theorem dX8_law_38 : decode cX8_law 38 = .ok (.aload_n 0, 1) := by decide +kernel
theorem dX8_law_39 : decode cX8_law 39 = .ok (.getfield 48, 3) := by decide +kernel
theorem dX8_law_42 : decode cX8_law 42 = .ok (.iload_n 2, 1) := by decide +kernel
theorem dX8_law_43 : decode cX8_law 43 = .ok (.laload, 1) := by decide +kernel
theorem dX8_law_44 : decode cX8_law 44 = .ok (.lreturn, 1) := by decide +kernel
set_option maxRecDepth 20000 in
theorem ggX8_knot_X8_in : GoodIn wsX8_knot wsX8_in := goodIn_r _ [7] rfl (by decide +kernel)
set_option maxRecDepth 20000 in
theorem gX8_knot_X8_in : GoodIn wsX8_knot (va_wsS RX8 79 yX8_in wsX8_in) := goodIn_app (goodIn_of _ (by decide +kernel)) ggX8_knot_X8_in
set_option maxRecDepth 20000 in
theorem ggX8_knot_X8_againstCubic : GoodIn wsX8_knot wsX8_againstCubic := goodIn_r _ [11, 12, 13, 14, 6, 15, 16, 17, 18, 19, 20, 4, 5, 7, 21, 22, 23, 24, 25, 26, 27, 28, 29, 30, 31, 32, 33, 34, 35, 36, 37, 38, 39, 40, 41, 42, 43, 44, 45, 69, 70, 71, 72, 73, 74, 75, 76, 77, 78, 79, 80, 81, 82, 83, 84, 85, 86, 87] rfl (by decide +kernel)
set_option maxRecDepth 20000 in
theorem gX8_knot_X8_againstCubic : GoodIn wsX8_knot (wsV RX8 219 RX8 yX8_againstCubic wsX8_againstCubic) := goodIn_app (goodIn_of _ (by decide +kernel)) ggX8_knot_X8_againstCubic
set_option maxRecDepth 20000 in
theorem ggX8_knot_X8_findKnot : GoodIn wsX8_knot wsX8_findKnot := goodIn_r _ [49, 50, 3, 37, 51, 52, 53, 6, 54, 55, 29, 56, 57, 58, 59, 60, 61, 62, 63, 64, 42, 43, 44, 45, 65, 66, 67, 68, 69, 70, 71, 72, 73, 74, 75, 76, 77, 78, 79, 80, 81, 82, 83, 84, 85, 86, 87] rfl (by decide +kernel)
set_option maxRecDepth 20000 in
theorem gX8_knot_X8_findKnot : GoodIn wsX8_knot (wsV RX8 222 RX8 yX8_findKnot wsX8_findKnot) := goodIn_app (goodIn_of _ (by decide +kernel)) ggX8_knot_X8_findKnot
theorem dX8_knot_0 : decode cX8_knot 0 = .ok (.iload_n 2, 1) := by decide +kernel
theorem dX8_knot_1 : decode cX8_knot 1 = .ok (.i2l, 1) := by decide +kernel
theorem dX8_knot_2 : decode cX8_knot 2 = .ok (.lconst 0, 1) := by decide +kernel
theorem dX8_knot_3 : decode cX8_knot 3 = .ok (.ldc2_w 166, 3) := by decide +kernel
theorem dX8_knot_6 : decode cX8_knot 6 = .ok (.invokestatic 79, 3) := by decide +kernel
theorem dX8_knot_9 : decode cX8_knot 9 = .ok (.ifCond .ne 7, 3) := by decide +kernel
theorem dX8_knot_12 : decode cX8_knot 12 = .ok (.iconst (-1), 1) := by decide +kernel
theorem dX8_knot_13 : decode cX8_knot 13 = .ok (.goto 8, 3) := by decide +kernel
theorem dX8_knot_16 : decode cX8_knot 16 = .ok (.aload_n 0, 1) := by decide +kernel
theorem dX8_knot_17 : decode cX8_knot 17 = .ok (.iload_n 1, 1) := by decide +kernel
theorem dX8_knot_18 : decode cX8_knot 18 = .ok (.invokevirtual 219, 3) := by decide +kernel
theorem dX8_knot_21 : decode cX8_knot 21 = .ok (.istore_n 3, 1) := by decide +kernel
theorem dX8_knot_22 : decode cX8_knot 22 = .ok (.iload_n 3, 1) := by decide +kernel
theorem dX8_knot_23 : decode cX8_knot 23 = .ok (.ifCond .ge 10, 3) := by decide +kernel
theorem dX8_knot_26 : decode cX8_knot 26 = .ok (.iload_n 3, 1) := by decide +kernel
theorem dX8_knot_27 : decode cX8_knot 27 = .ok (.i2l, 1) := by decide +kernel
theorem dX8_knot_28 : decode cX8_knot 28 = .ok (.ldc2_w 175, 3) := by decide +kernel
theorem dX8_knot_31 : decode cX8_knot 31 = .ok (.lsub, 1) := by decide +kernel
theorem dX8_knot_32 : decode cX8_knot 32 = .ok (.lreturn, 1) := by decide +kernel
theorem dX8_knot_33 : decode cX8_knot 33 = .ok (.aload_n 0, 1) := by decide +kernel
theorem dX8_knot_34 : decode cX8_knot 34 = .ok (.iload_n 1, 1) := by decide +kernel
theorem dX8_knot_35 : decode cX8_knot 35 = .ok (.invokevirtual 222, 3) := by decide +kernel
theorem dX8_knot_38 : decode cX8_knot 38 = .ok (.aload_n 0, 1) := by decide +kernel
theorem dX8_knot_39 : decode cX8_knot 39 = .ok (.getfield 33, 3) := by decide +kernel
theorem dX8_knot_42 : decode cX8_knot 42 = .ok (.iload_n 2, 1) := by decide +kernel
theorem dX8_knot_43 : decode cX8_knot 43 = .ok (.laload, 1) := by decide +kernel
theorem dX8_knot_44 : decode cX8_knot 44 = .ok (.lreturn, 1) := by decide +kernel
set_option maxRecDepth 20000 in
theorem ggX8_crosses_X8_againstCubic : GoodIn wsX8_crosses wsX8_againstCubic := goodIn_r _ [11, 12, 13, 14, 10, 15, 16, 17, 18, 19, 20, 21, 22, 23, 24, 25, 26, 27, 28, 29, 30, 31, 4, 32, 33, 34, 35, 36, 37, 38, 5, 39, 40, 41, 42, 43, 44, 45, 46, 69, 70, 71, 72, 73, 74, 75, 76, 77, 78, 79, 80, 81, 82, 83, 84, 85, 86, 87] rfl (by decide +kernel)
set_option maxRecDepth 20000 in
theorem gX8_crosses_X8_againstCubic : GoodIn wsX8_crosses (wsV RX8 219 RX8 yX8_againstCubic wsX8_againstCubic) := goodIn_app (goodIn_of _ (by decide +kernel)) ggX8_crosses_X8_againstCubic
set_option maxRecDepth 20000 in
theorem ggX8_crosses_X8_findKnot : GoodIn wsX8_crosses wsX8_findKnot := goodIn_r _ [50, 1, 3, 5, 51, 52, 53, 10, 54, 55, 4, 56, 57, 58, 59, 60, 61, 62, 63, 64, 43, 44, 45, 46, 65, 66, 67, 68, 69, 70, 71, 72, 73, 74, 75, 76, 77, 78, 79, 80, 81, 82, 83, 84, 85, 86, 87] rfl (by decide +kernel)
set_option maxRecDepth 20000 in
theorem gX8_crosses_X8_findKnot : GoodIn wsX8_crosses (wsV RX8 222 RX8 yX8_findKnot wsX8_findKnot) := goodIn_app (goodIn_of _ (by decide +kernel)) ggX8_crosses_X8_findKnot
set_option maxRecDepth 20000 in
theorem ggX8_crosses_X8_cross : GoodIn wsX8_crosses wsX8_cross := goodIn_r _ [46, 5, 69, 70, 71, 72, 73, 74, 75, 76, 77, 78, 79, 80, 81, 82, 83, 84, 85, 86, 87] rfl (by decide +kernel)
set_option maxRecDepth 20000 in
theorem gX8_crosses_X8_cross : GoodIn wsX8_crosses (wsV RX8 107 RX8 yX8_cross wsX8_cross) := goodIn_app (goodIn_of _ (by decide +kernel)) ggX8_crosses_X8_cross
set_option maxRecDepth 20000 in
theorem ggX8_crosses_X8_common : GoodIn wsX8_crosses wsX8_common := goodIn_r _ [64] rfl (by decide +kernel)
set_option maxRecDepth 20000 in
theorem gX8_crosses_X8_common : GoodIn wsX8_crosses (va_wsS RX8 63 yX8_common wsX8_common) := goodIn_app (goodIn_of _ (by decide +kernel)) ggX8_crosses_X8_common
theorem dX8_crosses_0 : decode cX8_crosses 0 = .ok (.aload_n 0, 1) := by decide +kernel
theorem dX8_crosses_1 : decode cX8_crosses 1 = .ok (.iload_n 1, 1) := by decide +kernel
theorem dX8_crosses_2 : decode cX8_crosses 2 = .ok (.invokevirtual 219, 3) := by decide +kernel
theorem dX8_crosses_5 : decode cX8_crosses 5 = .ok (.istore_n 2, 1) := by decide +kernel
theorem dX8_crosses_6 : decode cX8_crosses 6 = .ok (.iload_n 2, 1) := by decide +kernel
theorem dX8_crosses_7 : decode cX8_crosses 7 = .ok (.ifCond .ge 5, 3) := by decide +kernel
theorem dX8_crosses_10 : decode cX8_crosses 10 = .ok (.iload_n 2, 1) := by decide +kernel
theorem dX8_crosses_11 : decode cX8_crosses 11 = .ok (.ireturn, 1) := by decide +kernel
theorem dX8_crosses_12 : decode cX8_crosses 12 = .ok (.aload_n 0, 1) := by decide +kernel
theorem dX8_crosses_13 : decode cX8_crosses 13 = .ok (.iload_n 1, 1) := by decide +kernel
theorem dX8_crosses_14 : decode cX8_crosses 14 = .ok (.invokevirtual 222, 3) := by decide +kernel
theorem dX8_crosses_17 : decode cX8_crosses 17 = .ok (.iconst 0, 1) := by decide +kernel
theorem dX8_crosses_18 : decode cX8_crosses 18 = .ok (.istore_n 3, 1) := by decide +kernel
theorem dX8_crosses_19 : decode cX8_crosses 19 = .ok (.aload_n 0, 1) := by decide +kernel
theorem dX8_crosses_20 : decode cX8_crosses 20 = .ok (.getfield 48, 3) := by decide +kernel
theorem dX8_crosses_23 : decode cX8_crosses 23 = .ok (.iconst 2, 1) := by decide +kernel
theorem dX8_crosses_24 : decode cX8_crosses 24 = .ok (.iload_n 3, 1) := by decide +kernel
theorem dX8_crosses_25 : decode cX8_crosses 25 = .ok (.imul, 1) := by decide +kernel
theorem dX8_crosses_26 : decode cX8_crosses 26 = .ok (.laload, 1) := by decide +kernel
theorem dX8_crosses_27 : decode cX8_crosses 27 = .ok (.lconst 0, 1) := by decide +kernel
theorem dX8_crosses_28 : decode cX8_crosses 28 = .ok (.lcmp, 1) := by decide +kernel
theorem dX8_crosses_29 : decode cX8_crosses 29 = .ok (.ifCond .ne 24, 3) := by decide +kernel
theorem dX8_crosses_32 : decode cX8_crosses 32 = .ok (.aload_n 0, 1) := by decide +kernel
theorem dX8_crosses_33 : decode cX8_crosses 33 = .ok (.getfield 48, 3) := by decide +kernel
theorem dX8_crosses_36 : decode cX8_crosses 36 = .ok (.iconst 2, 1) := by decide +kernel
theorem dX8_crosses_37 : decode cX8_crosses 37 = .ok (.iload_n 3, 1) := by decide +kernel
theorem dX8_crosses_38 : decode cX8_crosses 38 = .ok (.imul, 1) := by decide +kernel
theorem dX8_crosses_39 : decode cX8_crosses 39 = .ok (.iconst 1, 1) := by decide +kernel
theorem dX8_crosses_40 : decode cX8_crosses 40 = .ok (.iadd, 1) := by decide +kernel
theorem dX8_crosses_41 : decode cX8_crosses 41 = .ok (.laload, 1) := by decide +kernel
theorem dX8_crosses_42 : decode cX8_crosses 42 = .ok (.lconst 0, 1) := by decide +kernel
theorem dX8_crosses_43 : decode cX8_crosses 43 = .ok (.lcmp, 1) := by decide +kernel
theorem dX8_crosses_44 : decode cX8_crosses 44 = .ok (.ifCond .ne 9, 3) := by decide +kernel
theorem dX8_crosses_47 : decode cX8_crosses 47 = .ok (.iinc 3 1, 3) := by decide +kernel
theorem dX8_crosses_50 : decode cX8_crosses 50 = .ok (.goto (-31), 3) := by decide +kernel
theorem dX8_crosses_53 : decode cX8_crosses 53 = .ok (.aload_n 0, 1) := by decide +kernel
theorem dX8_crosses_54 : decode cX8_crosses 54 = .ok (.getfield 20, 3) := by decide +kernel
theorem dX8_crosses_57 : decode cX8_crosses 57 = .ok (.astore 4, 2) := by decide +kernel
theorem dX8_crosses_59 : decode cX8_crosses 59 = .ok (.iconst 0, 1) := by decide +kernel
theorem dX8_crosses_60 : decode cX8_crosses 60 = .ok (.istore 5, 2) := by decide +kernel
theorem dX8_crosses_62 : decode cX8_crosses 62 = .ok (.iload 5, 2) := by decide +kernel
theorem dX8_crosses_64 : decode cX8_crosses 64 = .ok (.iconst 4, 1) := by decide +kernel
theorem dX8_crosses_65 : decode cX8_crosses 65 = .ok (.if_icmp .ge 77, 3) := by decide +kernel
theorem dX8_crosses_68 : decode cX8_crosses 68 = .ok (.bipush 12, 2) := by decide +kernel
theorem dX8_crosses_70 : decode cX8_crosses 70 = .ok (.iload_n 1, 1) := by decide +kernel
theorem dX8_crosses_71 : decode cX8_crosses 71 = .ok (.imul, 1) := by decide +kernel
theorem dX8_crosses_72 : decode cX8_crosses 72 = .ok (.iload 5, 2) := by decide +kernel
theorem dX8_crosses_74 : decode cX8_crosses 74 = .ok (.iadd, 1) := by decide +kernel
theorem dX8_crosses_75 : decode cX8_crosses 75 = .ok (.istore 6, 2) := by decide +kernel
theorem dX8_crosses_77 : decode cX8_crosses 77 = .ok (.aload_n 0, 1) := by decide +kernel
theorem dX8_crosses_78 : decode cX8_crosses 78 = .ok (.aload_n 0, 1) := by decide +kernel
theorem dX8_crosses_79 : decode cX8_crosses 79 = .ok (.getfield 33, 3) := by decide +kernel
theorem dX8_crosses_82 : decode cX8_crosses 82 = .ok (.iconst 0, 1) := by decide +kernel
theorem dX8_crosses_83 : decode cX8_crosses 83 = .ok (.laload, 1) := by decide +kernel
theorem dX8_crosses_84 : decode cX8_crosses 84 = .ok (.aload_n 0, 1) := by decide +kernel
theorem dX8_crosses_85 : decode cX8_crosses 85 = .ok (.getfield 33, 3) := by decide +kernel
theorem dX8_crosses_88 : decode cX8_crosses 88 = .ok (.iconst 1, 1) := by decide +kernel
theorem dX8_crosses_89 : decode cX8_crosses 89 = .ok (.laload, 1) := by decide +kernel
theorem dX8_crosses_90 : decode cX8_crosses 90 = .ok (.aload_n 0, 1) := by decide +kernel
theorem dX8_crosses_91 : decode cX8_crosses 91 = .ok (.getfield 33, 3) := by decide +kernel
theorem dX8_crosses_94 : decode cX8_crosses 94 = .ok (.iconst 2, 1) := by decide +kernel
theorem dX8_crosses_95 : decode cX8_crosses 95 = .ok (.laload, 1) := by decide +kernel
theorem dX8_crosses_96 : decode cX8_crosses 96 = .ok (.aload_n 0, 1) := by decide +kernel
theorem dX8_crosses_97 : decode cX8_crosses 97 = .ok (.getfield 13, 3) := by decide +kernel
theorem dX8_crosses_100 : decode cX8_crosses 100 = .ok (.iload 6, 2) := by decide +kernel
theorem dX8_crosses_102 : decode cX8_crosses 102 = .ok (.laload, 1) := by decide +kernel
theorem dX8_crosses_103 : decode cX8_crosses 103 = .ok (.aload_n 0, 1) := by decide +kernel
theorem dX8_crosses_104 : decode cX8_crosses 104 = .ok (.getfield 13, 3) := by decide +kernel
theorem dX8_crosses_107 : decode cX8_crosses 107 = .ok (.iload 6, 2) := by decide +kernel
theorem dX8_crosses_109 : decode cX8_crosses 109 = .ok (.iconst 4, 1) := by decide +kernel
theorem dX8_crosses_110 : decode cX8_crosses 110 = .ok (.iadd, 1) := by decide +kernel
theorem dX8_crosses_111 : decode cX8_crosses 111 = .ok (.laload, 1) := by decide +kernel
theorem dX8_crosses_112 : decode cX8_crosses 112 = .ok (.aload_n 0, 1) := by decide +kernel
theorem dX8_crosses_113 : decode cX8_crosses 113 = .ok (.getfield 13, 3) := by decide +kernel
theorem dX8_crosses_116 : decode cX8_crosses 116 = .ok (.iload 6, 2) := by decide +kernel
theorem dX8_crosses_118 : decode cX8_crosses 118 = .ok (.bipush 8, 2) := by decide +kernel
theorem dX8_crosses_120 : decode cX8_crosses 120 = .ok (.iadd, 1) := by decide +kernel
theorem dX8_crosses_121 : decode cX8_crosses 121 = .ok (.laload, 1) := by decide +kernel
theorem dX8_crosses_122 : decode cX8_crosses 122 = .ok (.invokevirtual 107, 3) := by decide +kernel
theorem dX8_crosses_125 : decode cX8_crosses 125 = .ok (.aload 4, 2) := by decide +kernel
theorem dX8_crosses_127 : decode cX8_crosses 127 = .ok (.iload 5, 2) := by decide +kernel
theorem dX8_crosses_129 : decode cX8_crosses 129 = .ok (.aload_n 0, 1) := by decide +kernel
theorem dX8_crosses_130 : decode cX8_crosses 130 = .ok (.getfield 26, 3) := by decide +kernel
theorem dX8_crosses_133 : decode cX8_crosses 133 = .ok (.iload_n 3, 1) := by decide +kernel
theorem dX8_crosses_134 : decode cX8_crosses 134 = .ok (.laload, 1) := by decide +kernel
theorem dX8_crosses_135 : decode cX8_crosses 135 = .ok (.lastore, 1) := by decide +kernel
theorem dX8_crosses_136 : decode cX8_crosses 136 = .ok (.iinc 5 1, 3) := by decide +kernel
theorem dX8_crosses_139 : decode cX8_crosses 139 = .ok (.goto (-77), 3) := by decide +kernel
theorem dX8_crosses_142 : decode cX8_crosses 142 = .ok (.aload_n 0, 1) := by decide +kernel
theorem dX8_crosses_143 : decode cX8_crosses 143 = .ok (.getfield 48, 3) := by decide +kernel
theorem dX8_crosses_146 : decode cX8_crosses 146 = .ok (.iconst 2, 1) := by decide +kernel
theorem dX8_crosses_147 : decode cX8_crosses 147 = .ok (.iload_n 3, 1) := by decide +kernel
theorem dX8_crosses_148 : decode cX8_crosses 148 = .ok (.imul, 1) := by decide +kernel
theorem dX8_crosses_149 : decode cX8_crosses 149 = .ok (.laload, 1) := by decide +kernel
theorem dX8_crosses_150 : decode cX8_crosses 150 = .ok (.lstore 5, 2) := by decide +kernel
theorem dX8_crosses_152 : decode cX8_crosses 152 = .ok (.aload_n 0, 1) := by decide +kernel
theorem dX8_crosses_153 : decode cX8_crosses 153 = .ok (.getfield 48, 3) := by decide +kernel
theorem dX8_crosses_156 : decode cX8_crosses 156 = .ok (.iconst 2, 1) := by decide +kernel
theorem dX8_crosses_157 : decode cX8_crosses 157 = .ok (.iload_n 3, 1) := by decide +kernel
theorem dX8_crosses_158 : decode cX8_crosses 158 = .ok (.imul, 1) := by decide +kernel
theorem dX8_crosses_159 : decode cX8_crosses 159 = .ok (.iconst 1, 1) := by decide +kernel
theorem dX8_crosses_160 : decode cX8_crosses 160 = .ok (.iadd, 1) := by decide +kernel
theorem dX8_crosses_161 : decode cX8_crosses 161 = .ok (.laload, 1) := by decide +kernel
theorem dX8_crosses_162 : decode cX8_crosses 162 = .ok (.lstore 7, 2) := by decide +kernel
theorem dX8_crosses_164 : decode cX8_crosses 164 = .ok (.lload 5, 2) := by decide +kernel
theorem dX8_crosses_166 : decode cX8_crosses 166 = .ok (.lconst 0, 1) := by decide +kernel
theorem dX8_crosses_167 : decode cX8_crosses 167 = .ok (.lcmp, 1) := by decide +kernel
theorem dX8_crosses_168 : decode cX8_crosses 168 = .ok (.ifCond .eq 13, 3) := by decide +kernel
theorem dX8_crosses_171 : decode cX8_crosses 171 = .ok (.aload 4, 2) := by decide +kernel
theorem dX8_crosses_173 : decode cX8_crosses 173 = .ok (.iconst 3, 1) := by decide +kernel
theorem dX8_crosses_174 : decode cX8_crosses 174 = .ok (.laload, 1) := by decide +kernel
theorem dX8_crosses_175 : decode cX8_crosses 175 = .ok (.lload 5, 2) := by decide +kernel
theorem dX8_crosses_177 : decode cX8_crosses 177 = .ok (.ldiv, 1) := by decide +kernel
theorem dX8_crosses_178 : decode cX8_crosses 178 = .ok (.goto 10, 3) := by decide +kernel
theorem dX8_crosses_181 : decode cX8_crosses 181 = .ok (.aload 4, 2) := by decide +kernel
theorem dX8_crosses_183 : decode cX8_crosses 183 = .ok (.iconst 2, 1) := by decide +kernel
theorem dX8_crosses_184 : decode cX8_crosses 184 = .ok (.laload, 1) := by decide +kernel
theorem dX8_crosses_185 : decode cX8_crosses 185 = .ok (.lload 7, 2) := by decide +kernel
theorem dX8_crosses_187 : decode cX8_crosses 187 = .ok (.ldiv, 1) := by decide +kernel
theorem dX8_crosses_188 : decode cX8_crosses 188 = .ok (.lstore 9, 2) := by decide +kernel
theorem dX8_crosses_190 : decode cX8_crosses 190 = .ok (.lload 5, 2) := by decide +kernel
theorem dX8_crosses_192 : decode cX8_crosses 192 = .ok (.lconst 0, 1) := by decide +kernel
theorem dX8_crosses_193 : decode cX8_crosses 193 = .ok (.lcmp, 1) := by decide +kernel
theorem dX8_crosses_194 : decode cX8_crosses 194 = .ok (.ifCond .eq 19, 3) := by decide +kernel
theorem dX8_crosses_197 : decode cX8_crosses 197 = .ok (.aload 4, 2) := by decide +kernel
theorem dX8_crosses_199 : decode cX8_crosses 199 = .ok (.iconst 2, 1) := by decide +kernel
theorem dX8_crosses_200 : decode cX8_crosses 200 = .ok (.laload, 1) := by decide +kernel
theorem dX8_crosses_201 : decode cX8_crosses 201 = .ok (.lload 7, 2) := by decide +kernel
theorem dX8_crosses_203 : decode cX8_crosses 203 = .ok (.lload 9, 2) := by decide +kernel
theorem dX8_crosses_205 : decode cX8_crosses 205 = .ok (.lmul, 1) := by decide +kernel
theorem dX8_crosses_206 : decode cX8_crosses 206 = .ok (.lsub, 1) := by decide +kernel
theorem dX8_crosses_207 : decode cX8_crosses 207 = .ok (.lload 5, 2) := by decide +kernel
theorem dX8_crosses_209 : decode cX8_crosses 209 = .ok (.ldiv, 1) := by decide +kernel
theorem dX8_crosses_210 : decode cX8_crosses 210 = .ok (.goto 10, 3) := by decide +kernel
theorem dX8_crosses_213 : decode cX8_crosses 213 = .ok (.aload 4, 2) := by decide +kernel
theorem dX8_crosses_215 : decode cX8_crosses 215 = .ok (.iconst 1, 1) := by decide +kernel
theorem dX8_crosses_216 : decode cX8_crosses 216 = .ok (.laload, 1) := by decide +kernel
theorem dX8_crosses_217 : decode cX8_crosses 217 = .ok (.lload 7, 2) := by decide +kernel
theorem dX8_crosses_219 : decode cX8_crosses 219 = .ok (.ldiv, 1) := by decide +kernel
theorem dX8_crosses_220 : decode cX8_crosses 220 = .ok (.lstore 11, 2) := by decide +kernel
theorem dX8_crosses_222 : decode cX8_crosses 222 = .ok (.lload 5, 2) := by decide +kernel
theorem dX8_crosses_224 : decode cX8_crosses 224 = .ok (.lconst 0, 1) := by decide +kernel
theorem dX8_crosses_225 : decode cX8_crosses 225 = .ok (.lcmp, 1) := by decide +kernel
theorem dX8_crosses_226 : decode cX8_crosses 226 = .ok (.ifCond .eq 19, 3) := by decide +kernel
theorem dX8_crosses_229 : decode cX8_crosses 229 = .ok (.aload 4, 2) := by decide +kernel
theorem dX8_crosses_231 : decode cX8_crosses 231 = .ok (.iconst 1, 1) := by decide +kernel
theorem dX8_crosses_232 : decode cX8_crosses 232 = .ok (.laload, 1) := by decide +kernel
theorem dX8_crosses_233 : decode cX8_crosses 233 = .ok (.lload 7, 2) := by decide +kernel
theorem dX8_crosses_235 : decode cX8_crosses 235 = .ok (.lload 11, 2) := by decide +kernel
theorem dX8_crosses_237 : decode cX8_crosses 237 = .ok (.lmul, 1) := by decide +kernel
theorem dX8_crosses_238 : decode cX8_crosses 238 = .ok (.lsub, 1) := by decide +kernel
theorem dX8_crosses_239 : decode cX8_crosses 239 = .ok (.lload 5, 2) := by decide +kernel
theorem dX8_crosses_241 : decode cX8_crosses 241 = .ok (.ldiv, 1) := by decide +kernel
theorem dX8_crosses_242 : decode cX8_crosses 242 = .ok (.goto 10, 3) := by decide +kernel
theorem dX8_crosses_245 : decode cX8_crosses 245 = .ok (.aload 4, 2) := by decide +kernel
theorem dX8_crosses_247 : decode cX8_crosses 247 = .ok (.iconst 0, 1) := by decide +kernel
theorem dX8_crosses_248 : decode cX8_crosses 248 = .ok (.laload, 1) := by decide +kernel
theorem dX8_crosses_249 : decode cX8_crosses 249 = .ok (.lload 7, 2) := by decide +kernel
theorem dX8_crosses_251 : decode cX8_crosses 251 = .ok (.ldiv, 1) := by decide +kernel
theorem dX8_crosses_252 : decode cX8_crosses 252 = .ok (.lstore 13, 2) := by decide +kernel
theorem dX8_crosses_254 : decode cX8_crosses 254 = .ok (.lload 9, 2) := by decide +kernel
theorem dX8_crosses_256 : decode cX8_crosses 256 = .ok (.lload 11, 2) := by decide +kernel
theorem dX8_crosses_258 : decode cX8_crosses 258 = .ok (.invokestatic 63, 3) := by decide +kernel
theorem dX8_crosses_261 : decode cX8_crosses 261 = .ok (.lload 13, 2) := by decide +kernel
theorem dX8_crosses_263 : decode cX8_crosses 263 = .ok (.invokestatic 63, 3) := by decide +kernel
theorem dX8_crosses_266 : decode cX8_crosses 266 = .ok (.lstore 15, 2) := by decide +kernel
theorem dX8_crosses_268 : decode cX8_crosses 268 = .ok (.lload 9, 2) := by decide +kernel
theorem dX8_crosses_270 : decode cX8_crosses 270 = .ok (.lload 15, 2) := by decide +kernel
theorem dX8_crosses_272 : decode cX8_crosses 272 = .ok (.ldiv, 1) := by decide +kernel
theorem dX8_crosses_273 : decode cX8_crosses 273 = .ok (.lstore 9, 2) := by decide +kernel
theorem dX8_crosses_275 : decode cX8_crosses 275 = .ok (.lload 11, 2) := by decide +kernel
theorem dX8_crosses_277 : decode cX8_crosses 277 = .ok (.lload 15, 2) := by decide +kernel
theorem dX8_crosses_279 : decode cX8_crosses 279 = .ok (.ldiv, 1) := by decide +kernel
theorem dX8_crosses_280 : decode cX8_crosses 280 = .ok (.lstore 11, 2) := by decide +kernel
theorem dX8_crosses_282 : decode cX8_crosses 282 = .ok (.lload 13, 2) := by decide +kernel
theorem dX8_crosses_284 : decode cX8_crosses 284 = .ok (.lload 15, 2) := by decide +kernel
theorem dX8_crosses_286 : decode cX8_crosses 286 = .ok (.ldiv, 1) := by decide +kernel
theorem dX8_crosses_287 : decode cX8_crosses 287 = .ok (.lstore 13, 2) := by decide +kernel
theorem dX8_crosses_289 : decode cX8_crosses 289 = .ok (.lload 11, 2) := by decide +kernel
theorem dX8_crosses_291 : decode cX8_crosses 291 = .ok (.lload 11, 2) := by decide +kernel
theorem dX8_crosses_293 : decode cX8_crosses 293 = .ok (.lmul, 1) := by decide +kernel
theorem dX8_crosses_294 : decode cX8_crosses 294 = .ok (.ldc2_w 225, 3) := by decide +kernel
theorem dX8_crosses_297 : decode cX8_crosses 297 = .ok (.lload 9, 2) := by decide +kernel
theorem dX8_crosses_299 : decode cX8_crosses 299 = .ok (.lmul, 1) := by decide +kernel
theorem dX8_crosses_300 : decode cX8_crosses 300 = .ok (.lload 13, 2) := by decide +kernel
theorem dX8_crosses_302 : decode cX8_crosses 302 = .ok (.lmul, 1) := by decide +kernel
theorem dX8_crosses_303 : decode cX8_crosses 303 = .ok (.lsub, 1) := by decide +kernel
theorem dX8_crosses_304 : decode cX8_crosses 304 = .ok (.lstore 17, 2) := by decide +kernel
theorem dX8_crosses_306 : decode cX8_crosses 306 = .ok (.lload 17, 2) := by decide +kernel
theorem dX8_crosses_308 : decode cX8_crosses 308 = .ok (.lconst 0, 1) := by decide +kernel
theorem dX8_crosses_309 : decode cX8_crosses 309 = .ok (.lcmp, 1) := by decide +kernel
theorem dX8_crosses_310 : decode cX8_crosses 310 = .ok (.ifCond .le 7, 3) := by decide +kernel
theorem dX8_crosses_313 : decode cX8_crosses 313 = .ok (.iconst 2, 1) := by decide +kernel
theorem dX8_crosses_314 : decode cX8_crosses 314 = .ok (.goto 15, 3) := by decide +kernel
theorem dX8_crosses_317 : decode cX8_crosses 317 = .ok (.lload 17, 2) := by decide +kernel
theorem dX8_crosses_319 : decode cX8_crosses 319 = .ok (.lconst 0, 1) := by decide +kernel
theorem dX8_crosses_320 : decode cX8_crosses 320 = .ok (.lcmp, 1) := by decide +kernel
theorem dX8_crosses_321 : decode cX8_crosses 321 = .ok (.ifCond .ne 7, 3) := by decide +kernel
theorem dX8_crosses_324 : decode cX8_crosses 324 = .ok (.iconst 1, 1) := by decide +kernel
theorem dX8_crosses_325 : decode cX8_crosses 325 = .ok (.goto 4, 3) := by decide +kernel
theorem dX8_crosses_328 : decode cX8_crosses 328 = .ok (.iconst 0, 1) := by decide +kernel
theorem dX8_crosses_329 : decode cX8_crosses 329 = .ok (.ireturn, 1) := by decide +kernel
theorem dX8_rootsOf_0 : decode cX8_rootsOf 0 = .ok (.lload_n 0, 1) := by decide +kernel
theorem dX8_rootsOf_1 : decode cX8_rootsOf 1 = .ok (.lconst 0, 1) := by decide +kernel
theorem dX8_rootsOf_2 : decode cX8_rootsOf 2 = .ok (.lcmp, 1) := by decide +kernel
theorem dX8_rootsOf_3 : decode cX8_rootsOf 3 = .ok (.ifCond .eq 113, 3) := by decide +kernel
theorem dX8_rootsOf_6 : decode cX8_rootsOf 6 = .ok (.ldc2_w 227, 3) := by decide +kernel
theorem dX8_rootsOf_9 : decode cX8_rootsOf 9 = .ok (.lload_n 0, 1) := by decide +kernel
theorem dX8_rootsOf_10 : decode cX8_rootsOf 10 = .ok (.lmul, 1) := by decide +kernel
theorem dX8_rootsOf_11 : decode cX8_rootsOf 11 = .ok (.lload_n 2, 1) := by decide +kernel
theorem dX8_rootsOf_12 : decode cX8_rootsOf 12 = .ok (.lmul, 1) := by decide +kernel
theorem dX8_rootsOf_13 : decode cX8_rootsOf 13 = .ok (.lload 4, 2) := by decide +kernel
theorem dX8_rootsOf_15 : decode cX8_rootsOf 15 = .ok (.lmul, 1) := by decide +kernel
theorem dX8_rootsOf_16 : decode cX8_rootsOf 16 = .ok (.lload 6, 2) := by decide +kernel
theorem dX8_rootsOf_18 : decode cX8_rootsOf 18 = .ok (.lmul, 1) := by decide +kernel
theorem dX8_rootsOf_19 : decode cX8_rootsOf 19 = .ok (.ldc2_w 225, 3) := by decide +kernel
theorem dX8_rootsOf_22 : decode cX8_rootsOf 22 = .ok (.lload_n 2, 1) := by decide +kernel
theorem dX8_rootsOf_23 : decode cX8_rootsOf 23 = .ok (.lmul, 1) := by decide +kernel
theorem dX8_rootsOf_24 : decode cX8_rootsOf 24 = .ok (.lload_n 2, 1) := by decide +kernel
theorem dX8_rootsOf_25 : decode cX8_rootsOf 25 = .ok (.lmul, 1) := by decide +kernel
theorem dX8_rootsOf_26 : decode cX8_rootsOf 26 = .ok (.lload_n 2, 1) := by decide +kernel
theorem dX8_rootsOf_27 : decode cX8_rootsOf 27 = .ok (.lmul, 1) := by decide +kernel
theorem dX8_rootsOf_28 : decode cX8_rootsOf 28 = .ok (.lload 6, 2) := by decide +kernel
theorem dX8_rootsOf_30 : decode cX8_rootsOf 30 = .ok (.lmul, 1) := by decide +kernel
theorem dX8_rootsOf_31 : decode cX8_rootsOf 31 = .ok (.lsub, 1) := by decide +kernel
theorem dX8_rootsOf_32 : decode cX8_rootsOf 32 = .ok (.lload_n 2, 1) := by decide +kernel
theorem dX8_rootsOf_33 : decode cX8_rootsOf 33 = .ok (.lload_n 2, 1) := by decide +kernel
theorem dX8_rootsOf_34 : decode cX8_rootsOf 34 = .ok (.lmul, 1) := by decide +kernel
theorem dX8_rootsOf_35 : decode cX8_rootsOf 35 = .ok (.lload 4, 2) := by decide +kernel
theorem dX8_rootsOf_37 : decode cX8_rootsOf 37 = .ok (.lmul, 1) := by decide +kernel
theorem dX8_rootsOf_38 : decode cX8_rootsOf 38 = .ok (.lload 4, 2) := by decide +kernel
theorem dX8_rootsOf_40 : decode cX8_rootsOf 40 = .ok (.lmul, 1) := by decide +kernel
theorem dX8_rootsOf_41 : decode cX8_rootsOf 41 = .ok (.ladd, 1) := by decide +kernel
theorem dX8_rootsOf_42 : decode cX8_rootsOf 42 = .ok (.ldc2_w 225, 3) := by decide +kernel
theorem dX8_rootsOf_45 : decode cX8_rootsOf 45 = .ok (.lload_n 0, 1) := by decide +kernel
theorem dX8_rootsOf_46 : decode cX8_rootsOf 46 = .ok (.lmul, 1) := by decide +kernel
theorem dX8_rootsOf_47 : decode cX8_rootsOf 47 = .ok (.lload 4, 2) := by decide +kernel
theorem dX8_rootsOf_49 : decode cX8_rootsOf 49 = .ok (.lmul, 1) := by decide +kernel
theorem dX8_rootsOf_50 : decode cX8_rootsOf 50 = .ok (.lload 4, 2) := by decide +kernel
theorem dX8_rootsOf_52 : decode cX8_rootsOf 52 = .ok (.lmul, 1) := by decide +kernel
theorem dX8_rootsOf_53 : decode cX8_rootsOf 53 = .ok (.lload 4, 2) := by decide +kernel
theorem dX8_rootsOf_55 : decode cX8_rootsOf 55 = .ok (.lmul, 1) := by decide +kernel
theorem dX8_rootsOf_56 : decode cX8_rootsOf 56 = .ok (.lsub, 1) := by decide +kernel
theorem dX8_rootsOf_57 : decode cX8_rootsOf 57 = .ok (.ldc2_w 229, 3) := by decide +kernel
theorem dX8_rootsOf_60 : decode cX8_rootsOf 60 = .ok (.lload_n 0, 1) := by decide +kernel
theorem dX8_rootsOf_61 : decode cX8_rootsOf 61 = .ok (.lmul, 1) := by decide +kernel
theorem dX8_rootsOf_62 : decode cX8_rootsOf 62 = .ok (.lload_n 0, 1) := by decide +kernel
theorem dX8_rootsOf_63 : decode cX8_rootsOf 63 = .ok (.lmul, 1) := by decide +kernel
theorem dX8_rootsOf_64 : decode cX8_rootsOf 64 = .ok (.lload 6, 2) := by decide +kernel
theorem dX8_rootsOf_66 : decode cX8_rootsOf 66 = .ok (.lmul, 1) := by decide +kernel
theorem dX8_rootsOf_67 : decode cX8_rootsOf 67 = .ok (.lload 6, 2) := by decide +kernel
theorem dX8_rootsOf_69 : decode cX8_rootsOf 69 = .ok (.lmul, 1) := by decide +kernel
theorem dX8_rootsOf_70 : decode cX8_rootsOf 70 = .ok (.lsub, 1) := by decide +kernel
theorem dX8_rootsOf_71 : decode cX8_rootsOf 71 = .ok (.lstore 8, 2) := by decide +kernel
theorem dX8_rootsOf_73 : decode cX8_rootsOf 73 = .ok (.lload 8, 2) := by decide +kernel
theorem dX8_rootsOf_75 : decode cX8_rootsOf 75 = .ok (.lconst 0, 1) := by decide +kernel
theorem dX8_rootsOf_76 : decode cX8_rootsOf 76 = .ok (.lcmp, 1) := by decide +kernel
theorem dX8_rootsOf_77 : decode cX8_rootsOf 77 = .ok (.ifCond .le 7, 3) := by decide +kernel
theorem dX8_rootsOf_80 : decode cX8_rootsOf 80 = .ok (.iconst 3, 1) := by decide +kernel
theorem dX8_rootsOf_81 : decode cX8_rootsOf 81 = .ok (.goto 34, 3) := by decide +kernel
theorem dX8_rootsOf_84 : decode cX8_rootsOf 84 = .ok (.lload 8, 2) := by decide +kernel
theorem dX8_rootsOf_86 : decode cX8_rootsOf 86 = .ok (.lconst 0, 1) := by decide +kernel
theorem dX8_rootsOf_87 : decode cX8_rootsOf 87 = .ok (.lcmp, 1) := by decide +kernel
theorem dX8_rootsOf_88 : decode cX8_rootsOf 88 = .ok (.ifCond .ge 7, 3) := by decide +kernel
theorem dX8_rootsOf_91 : decode cX8_rootsOf 91 = .ok (.iconst 1, 1) := by decide +kernel
theorem dX8_rootsOf_92 : decode cX8_rootsOf 92 = .ok (.goto 23, 3) := by decide +kernel
theorem dX8_rootsOf_95 : decode cX8_rootsOf 95 = .ok (.lload_n 2, 1) := by decide +kernel
theorem dX8_rootsOf_96 : decode cX8_rootsOf 96 = .ok (.lload_n 2, 1) := by decide +kernel
theorem dX8_rootsOf_97 : decode cX8_rootsOf 97 = .ok (.lmul, 1) := by decide +kernel
theorem dX8_rootsOf_98 : decode cX8_rootsOf 98 = .ok (.ldc2_w 122, 3) := by decide +kernel
theorem dX8_rootsOf_101 : decode cX8_rootsOf 101 = .ok (.lload_n 0, 1) := by decide +kernel
theorem dX8_rootsOf_102 : decode cX8_rootsOf 102 = .ok (.lmul, 1) := by decide +kernel
theorem dX8_rootsOf_103 : decode cX8_rootsOf 103 = .ok (.lload 4, 2) := by decide +kernel
theorem dX8_rootsOf_105 : decode cX8_rootsOf 105 = .ok (.lmul, 1) := by decide +kernel
theorem dX8_rootsOf_106 : decode cX8_rootsOf 106 = .ok (.lcmp, 1) := by decide +kernel
theorem dX8_rootsOf_107 : decode cX8_rootsOf 107 = .ok (.ifCond .ne 7, 3) := by decide +kernel
theorem dX8_rootsOf_110 : decode cX8_rootsOf 110 = .ok (.iconst 1, 1) := by decide +kernel
theorem dX8_rootsOf_111 : decode cX8_rootsOf 111 = .ok (.goto 4, 3) := by decide +kernel
theorem dX8_rootsOf_114 : decode cX8_rootsOf 114 = .ok (.iconst 2, 1) := by decide +kernel
theorem dX8_rootsOf_115 : decode cX8_rootsOf 115 = .ok (.ireturn, 1) := by decide +kernel
theorem dX8_rootsOf_116 : decode cX8_rootsOf 116 = .ok (.lload_n 2, 1) := by decide +kernel
theorem dX8_rootsOf_117 : decode cX8_rootsOf 117 = .ok (.lconst 0, 1) := by decide +kernel
theorem dX8_rootsOf_118 : decode cX8_rootsOf 118 = .ok (.lcmp, 1) := by decide +kernel
theorem dX8_rootsOf_119 : decode cX8_rootsOf 119 = .ok (.ifCond .eq 43, 3) := by decide +kernel
theorem dX8_rootsOf_122 : decode cX8_rootsOf 122 = .ok (.lload 4, 2) := by decide +kernel
theorem dX8_rootsOf_124 : decode cX8_rootsOf 124 = .ok (.lload 4, 2) := by decide +kernel
theorem dX8_rootsOf_126 : decode cX8_rootsOf 126 = .ok (.lmul, 1) := by decide +kernel
theorem dX8_rootsOf_127 : decode cX8_rootsOf 127 = .ok (.ldc2_w 225, 3) := by decide +kernel
theorem dX8_rootsOf_130 : decode cX8_rootsOf 130 = .ok (.lload_n 2, 1) := by decide +kernel
theorem dX8_rootsOf_131 : decode cX8_rootsOf 131 = .ok (.lmul, 1) := by decide +kernel
theorem dX8_rootsOf_132 : decode cX8_rootsOf 132 = .ok (.lload 6, 2) := by decide +kernel
theorem dX8_rootsOf_134 : decode cX8_rootsOf 134 = .ok (.lmul, 1) := by decide +kernel
theorem dX8_rootsOf_135 : decode cX8_rootsOf 135 = .ok (.lsub, 1) := by decide +kernel
theorem dX8_rootsOf_136 : decode cX8_rootsOf 136 = .ok (.lstore 8, 2) := by decide +kernel
theorem dX8_rootsOf_138 : decode cX8_rootsOf 138 = .ok (.lload 8, 2) := by decide +kernel
theorem dX8_rootsOf_140 : decode cX8_rootsOf 140 = .ok (.lconst 0, 1) := by decide +kernel
theorem dX8_rootsOf_141 : decode cX8_rootsOf 141 = .ok (.lcmp, 1) := by decide +kernel
theorem dX8_rootsOf_142 : decode cX8_rootsOf 142 = .ok (.ifCond .le 7, 3) := by decide +kernel
theorem dX8_rootsOf_145 : decode cX8_rootsOf 145 = .ok (.iconst 2, 1) := by decide +kernel
theorem dX8_rootsOf_146 : decode cX8_rootsOf 146 = .ok (.goto 15, 3) := by decide +kernel
theorem dX8_rootsOf_149 : decode cX8_rootsOf 149 = .ok (.lload 8, 2) := by decide +kernel
theorem dX8_rootsOf_151 : decode cX8_rootsOf 151 = .ok (.lconst 0, 1) := by decide +kernel
theorem dX8_rootsOf_152 : decode cX8_rootsOf 152 = .ok (.lcmp, 1) := by decide +kernel
theorem dX8_rootsOf_153 : decode cX8_rootsOf 153 = .ok (.ifCond .ne 7, 3) := by decide +kernel
theorem dX8_rootsOf_156 : decode cX8_rootsOf 156 = .ok (.iconst 1, 1) := by decide +kernel
theorem dX8_rootsOf_157 : decode cX8_rootsOf 157 = .ok (.goto 4, 3) := by decide +kernel
theorem dX8_rootsOf_160 : decode cX8_rootsOf 160 = .ok (.iconst 0, 1) := by decide +kernel
theorem dX8_rootsOf_161 : decode cX8_rootsOf 161 = .ok (.ireturn, 1) := by decide +kernel
theorem dX8_rootsOf_162 : decode cX8_rootsOf 162 = .ok (.lload 4, 2) := by decide +kernel
theorem dX8_rootsOf_164 : decode cX8_rootsOf 164 = .ok (.lconst 0, 1) := by decide +kernel
theorem dX8_rootsOf_165 : decode cX8_rootsOf 165 = .ok (.lcmp, 1) := by decide +kernel
theorem dX8_rootsOf_166 : decode cX8_rootsOf 166 = .ok (.ifCond .eq 7, 3) := by decide +kernel
theorem dX8_rootsOf_169 : decode cX8_rootsOf 169 = .ok (.iconst 1, 1) := by decide +kernel
theorem dX8_rootsOf_170 : decode cX8_rootsOf 170 = .ok (.goto 4, 3) := by decide +kernel
theorem dX8_rootsOf_173 : decode cX8_rootsOf 173 = .ok (.iconst 0, 1) := by decide +kernel
theorem dX8_rootsOf_174 : decode cX8_rootsOf 174 = .ok (.ireturn, 1) := by decide +kernel
set_option maxRecDepth 20000 in
theorem ggX8_meets_X8_in : GoodIn wsX8_meets wsX8_in := goodIn_r _ [8] rfl (by decide +kernel)
set_option maxRecDepth 20000 in
theorem gX8_meets_X8_in : GoodIn wsX8_meets (va_wsS RX8 79 yX8_in wsX8_in) := goodIn_app (goodIn_of _ (by decide +kernel)) ggX8_meets_X8_in
set_option maxRecDepth 20000 in
theorem ggX8_meets_X8_against : GoodIn wsX8_meets wsX8_against := goodIn_r _ [12, 13, 14, 15, 7, 16, 17, 5, 6, 8, 24, 25, 26, 27, 28, 29, 30, 31, 32, 33, 34, 35, 36, 37, 38, 39, 40, 41, 42] rfl (by decide +kernel)
set_option maxRecDepth 20000 in
theorem gX8_meets_X8_against : GoodIn wsX8_meets (wsV RX8 163 RX8 yX8_against wsX8_against) := goodIn_app (goodIn_of _ (by decide +kernel)) ggX8_meets_X8_against
set_option maxRecDepth 20000 in
theorem ggX8_meets_X8_rootsOf : GoodIn wsX8_meets wsX8_rootsOf := goodIn_r _ [20, 21, 22, 23, 17] rfl (by decide +kernel)
set_option maxRecDepth 20000 in
theorem gX8_meets_X8_rootsOf : GoodIn wsX8_meets (va_wsS RX8 231 yX8_rootsOf wsX8_rootsOf) := goodIn_app (goodIn_of _ (by decide +kernel)) ggX8_meets_X8_rootsOf
theorem dX8_meets_0 : decode cX8_meets 0 = .ok (.iload_n 2, 1) := by decide +kernel
theorem dX8_meets_1 : decode cX8_meets 1 = .ok (.i2l, 1) := by decide +kernel
theorem dX8_meets_2 : decode cX8_meets 2 = .ok (.ldc2_w 168, 3) := by decide +kernel
theorem dX8_meets_5 : decode cX8_meets 5 = .ok (.ldc2_w 170, 3) := by decide +kernel
theorem dX8_meets_8 : decode cX8_meets 8 = .ok (.invokestatic 79, 3) := by decide +kernel
theorem dX8_meets_11 : decode cX8_meets 11 = .ok (.ifCond .eq 40, 3) := by decide +kernel
theorem dX8_meets_14 : decode cX8_meets 14 = .ok (.iload_n 3, 1) := by decide +kernel
theorem dX8_meets_15 : decode cX8_meets 15 = .ok (.i2l, 1) := by decide +kernel
theorem dX8_meets_16 : decode cX8_meets 16 = .ok (.ldc2_w 168, 3) := by decide +kernel
theorem dX8_meets_19 : decode cX8_meets 19 = .ok (.ldc2_w 170, 3) := by decide +kernel
theorem dX8_meets_22 : decode cX8_meets 22 = .ok (.invokestatic 79, 3) := by decide +kernel
theorem dX8_meets_25 : decode cX8_meets 25 = .ok (.ifCond .eq 26, 3) := by decide +kernel
theorem dX8_meets_28 : decode cX8_meets 28 = .ok (.iload 4, 2) := by decide +kernel
theorem dX8_meets_30 : decode cX8_meets 30 = .ok (.i2l, 1) := by decide +kernel
theorem dX8_meets_31 : decode cX8_meets 31 = .ok (.ldc2_w 168, 3) := by decide +kernel
theorem dX8_meets_34 : decode cX8_meets 34 = .ok (.ldc2_w 170, 3) := by decide +kernel
theorem dX8_meets_37 : decode cX8_meets 37 = .ok (.invokestatic 79, 3) := by decide +kernel
theorem dX8_meets_40 : decode cX8_meets 40 = .ok (.ifCond .eq 11, 3) := by decide +kernel
theorem dX8_meets_43 : decode cX8_meets 43 = .ok (.iload_n 2, 1) := by decide +kernel
theorem dX8_meets_44 : decode cX8_meets 44 = .ok (.ifCond .ne 11, 3) := by decide +kernel
theorem dX8_meets_47 : decode cX8_meets 47 = .ok (.iload_n 3, 1) := by decide +kernel
theorem dX8_meets_48 : decode cX8_meets 48 = .ok (.ifCond .ne 7, 3) := by decide +kernel
theorem dX8_meets_51 : decode cX8_meets 51 = .ok (.iconst (-1), 1) := by decide +kernel
theorem dX8_meets_52 : decode cX8_meets 52 = .ok (.goto 8, 3) := by decide +kernel
theorem dX8_meets_55 : decode cX8_meets 55 = .ok (.aload_n 0, 1) := by decide +kernel
theorem dX8_meets_56 : decode cX8_meets 56 = .ok (.iload_n 1, 1) := by decide +kernel
theorem dX8_meets_57 : decode cX8_meets 57 = .ok (.invokevirtual 163, 3) := by decide +kernel
theorem dX8_meets_60 : decode cX8_meets 60 = .ok (.istore 5, 2) := by decide +kernel
theorem dX8_meets_62 : decode cX8_meets 62 = .ok (.iload 5, 2) := by decide +kernel
theorem dX8_meets_64 : decode cX8_meets 64 = .ok (.ifCond .ge 6, 3) := by decide +kernel
theorem dX8_meets_67 : decode cX8_meets 67 = .ok (.iload 5, 2) := by decide +kernel
theorem dX8_meets_69 : decode cX8_meets 69 = .ok (.ireturn, 1) := by decide +kernel
theorem dX8_meets_70 : decode cX8_meets 70 = .ok (.iconst 1, 1) := by decide +kernel
theorem dX8_meets_71 : decode cX8_meets 71 = .ok (.istore 6, 2) := by decide +kernel
theorem dX8_meets_73 : decode cX8_meets 73 = .ok (.iconst 0, 1) := by decide +kernel
theorem dX8_meets_74 : decode cX8_meets 74 = .ok (.istore 7, 2) := by decide +kernel
theorem dX8_meets_76 : decode cX8_meets 76 = .ok (.iload 7, 2) := by decide +kernel
theorem dX8_meets_78 : decode cX8_meets 78 = .ok (.iconst 4, 1) := by decide +kernel
theorem dX8_meets_79 : decode cX8_meets 79 = .ok (.if_icmp .ge 87, 3) := by decide +kernel
theorem dX8_meets_82 : decode cX8_meets 82 = .ok (.bipush 12, 2) := by decide +kernel
theorem dX8_meets_84 : decode cX8_meets 84 = .ok (.iload_n 1, 1) := by decide +kernel
theorem dX8_meets_85 : decode cX8_meets 85 = .ok (.imul, 1) := by decide +kernel
theorem dX8_meets_86 : decode cX8_meets 86 = .ok (.iload 7, 2) := by decide +kernel
theorem dX8_meets_88 : decode cX8_meets 88 = .ok (.iadd, 1) := by decide +kernel
theorem dX8_meets_89 : decode cX8_meets 89 = .ok (.istore 8, 2) := by decide +kernel
theorem dX8_meets_91 : decode cX8_meets 91 = .ok (.aload_n 0, 1) := by decide +kernel
theorem dX8_meets_92 : decode cX8_meets 92 = .ok (.getfield 20, 3) := by decide +kernel
theorem dX8_meets_95 : decode cX8_meets 95 = .ok (.iload 7, 2) := by decide +kernel
theorem dX8_meets_97 : decode cX8_meets 97 = .ok (.iload_n 2, 1) := by decide +kernel
theorem dX8_meets_98 : decode cX8_meets 98 = .ok (.i2l, 1) := by decide +kernel
theorem dX8_meets_99 : decode cX8_meets 99 = .ok (.aload_n 0, 1) := by decide +kernel
theorem dX8_meets_100 : decode cX8_meets 100 = .ok (.getfield 13, 3) := by decide +kernel
theorem dX8_meets_103 : decode cX8_meets 103 = .ok (.iload 8, 2) := by decide +kernel
theorem dX8_meets_105 : decode cX8_meets 105 = .ok (.laload, 1) := by decide +kernel
theorem dX8_meets_106 : decode cX8_meets 106 = .ok (.lmul, 1) := by decide +kernel
theorem dX8_meets_107 : decode cX8_meets 107 = .ok (.iload_n 3, 1) := by decide +kernel
theorem dX8_meets_108 : decode cX8_meets 108 = .ok (.i2l, 1) := by decide +kernel
theorem dX8_meets_109 : decode cX8_meets 109 = .ok (.aload_n 0, 1) := by decide +kernel
theorem dX8_meets_110 : decode cX8_meets 110 = .ok (.getfield 13, 3) := by decide +kernel
theorem dX8_meets_113 : decode cX8_meets 113 = .ok (.iload 8, 2) := by decide +kernel
theorem dX8_meets_115 : decode cX8_meets 115 = .ok (.iconst 4, 1) := by decide +kernel
theorem dX8_meets_116 : decode cX8_meets 116 = .ok (.iadd, 1) := by decide +kernel
theorem dX8_meets_117 : decode cX8_meets 117 = .ok (.laload, 1) := by decide +kernel
theorem dX8_meets_118 : decode cX8_meets 118 = .ok (.lmul, 1) := by decide +kernel
theorem dX8_meets_119 : decode cX8_meets 119 = .ok (.ladd, 1) := by decide +kernel
theorem dX8_meets_120 : decode cX8_meets 120 = .ok (.iload 4, 2) := by decide +kernel
theorem dX8_meets_122 : decode cX8_meets 122 = .ok (.i2l, 1) := by decide +kernel
theorem dX8_meets_123 : decode cX8_meets 123 = .ok (.aload_n 0, 1) := by decide +kernel
theorem dX8_meets_124 : decode cX8_meets 124 = .ok (.getfield 13, 3) := by decide +kernel
theorem dX8_meets_127 : decode cX8_meets 127 = .ok (.iload 8, 2) := by decide +kernel
theorem dX8_meets_129 : decode cX8_meets 129 = .ok (.bipush 8, 2) := by decide +kernel
theorem dX8_meets_131 : decode cX8_meets 131 = .ok (.iadd, 1) := by decide +kernel
theorem dX8_meets_132 : decode cX8_meets 132 = .ok (.laload, 1) := by decide +kernel
theorem dX8_meets_133 : decode cX8_meets 133 = .ok (.lmul, 1) := by decide +kernel
theorem dX8_meets_134 : decode cX8_meets 134 = .ok (.ladd, 1) := by decide +kernel
theorem dX8_meets_135 : decode cX8_meets 135 = .ok (.lastore, 1) := by decide +kernel
theorem dX8_meets_136 : decode cX8_meets 136 = .ok (.iload 6, 2) := by decide +kernel
theorem dX8_meets_138 : decode cX8_meets 138 = .ok (.ifCond .eq 19, 3) := by decide +kernel
theorem dX8_meets_141 : decode cX8_meets 141 = .ok (.aload_n 0, 1) := by decide +kernel
theorem dX8_meets_142 : decode cX8_meets 142 = .ok (.getfield 20, 3) := by decide +kernel
theorem dX8_meets_145 : decode cX8_meets 145 = .ok (.iload 7, 2) := by decide +kernel
theorem dX8_meets_147 : decode cX8_meets 147 = .ok (.laload, 1) := by decide +kernel
theorem dX8_meets_148 : decode cX8_meets 148 = .ok (.lconst 0, 1) := by decide +kernel
theorem dX8_meets_149 : decode cX8_meets 149 = .ok (.lcmp, 1) := by decide +kernel
theorem dX8_meets_150 : decode cX8_meets 150 = .ok (.ifCond .ne 7, 3) := by decide +kernel
theorem dX8_meets_153 : decode cX8_meets 153 = .ok (.iconst 1, 1) := by decide +kernel
theorem dX8_meets_154 : decode cX8_meets 154 = .ok (.goto 4, 3) := by decide +kernel
theorem dX8_meets_157 : decode cX8_meets 157 = .ok (.iconst 0, 1) := by decide +kernel
theorem dX8_meets_158 : decode cX8_meets 158 = .ok (.istore 6, 2) := by decide +kernel
theorem dX8_meets_160 : decode cX8_meets 160 = .ok (.iinc 7 1, 3) := by decide +kernel
theorem dX8_meets_163 : decode cX8_meets 163 = .ok (.goto (-87), 3) := by decide +kernel
theorem dX8_meets_166 : decode cX8_meets 166 = .ok (.iload 6, 2) := by decide +kernel
theorem dX8_meets_168 : decode cX8_meets 168 = .ok (.ifCond .eq 8, 3) := by decide +kernel
theorem dX8_meets_171 : decode cX8_meets 171 = .ok (.bipush (-4), 2) := by decide +kernel
theorem dX8_meets_173 : decode cX8_meets 173 = .ok (.goto 30, 3) := by decide +kernel
theorem dX8_meets_176 : decode cX8_meets 176 = .ok (.aload_n 0, 1) := by decide +kernel
theorem dX8_meets_177 : decode cX8_meets 177 = .ok (.getfield 20, 3) := by decide +kernel
theorem dX8_meets_180 : decode cX8_meets 180 = .ok (.iconst 3, 1) := by decide +kernel
theorem dX8_meets_181 : decode cX8_meets 181 = .ok (.laload, 1) := by decide +kernel
theorem dX8_meets_182 : decode cX8_meets 182 = .ok (.aload_n 0, 1) := by decide +kernel
theorem dX8_meets_183 : decode cX8_meets 183 = .ok (.getfield 20, 3) := by decide +kernel
theorem dX8_meets_186 : decode cX8_meets 186 = .ok (.iconst 2, 1) := by decide +kernel
theorem dX8_meets_187 : decode cX8_meets 187 = .ok (.laload, 1) := by decide +kernel
theorem dX8_meets_188 : decode cX8_meets 188 = .ok (.aload_n 0, 1) := by decide +kernel
theorem dX8_meets_189 : decode cX8_meets 189 = .ok (.getfield 20, 3) := by decide +kernel
theorem dX8_meets_192 : decode cX8_meets 192 = .ok (.iconst 1, 1) := by decide +kernel
theorem dX8_meets_193 : decode cX8_meets 193 = .ok (.laload, 1) := by decide +kernel
theorem dX8_meets_194 : decode cX8_meets 194 = .ok (.aload_n 0, 1) := by decide +kernel
theorem dX8_meets_195 : decode cX8_meets 195 = .ok (.getfield 20, 3) := by decide +kernel
theorem dX8_meets_198 : decode cX8_meets 198 = .ok (.iconst 0, 1) := by decide +kernel
theorem dX8_meets_199 : decode cX8_meets 199 = .ok (.laload, 1) := by decide +kernel
theorem dX8_meets_200 : decode cX8_meets 200 = .ok (.invokestatic 231, 3) := by decide +kernel
theorem dX8_meets_203 : decode cX8_meets 203 = .ok (.ireturn, 1) := by decide +kernel
theorem dX8_slopeAt_0 : decode cX8_slopeAt 0 = .ok (.ldc2_w 122, 3) := by decide +kernel
theorem dX8_slopeAt_3 : decode cX8_slopeAt 3 = .ok (.aload_n 0, 1) := by decide +kernel
theorem dX8_slopeAt_4 : decode cX8_slopeAt 4 = .ok (.getfield 13, 3) := by decide +kernel
theorem dX8_slopeAt_7 : decode cX8_slopeAt 7 = .ok (.iload_n 1, 1) := by decide +kernel
theorem dX8_slopeAt_8 : decode cX8_slopeAt 8 = .ok (.iconst 3, 1) := by decide +kernel
theorem dX8_slopeAt_9 : decode cX8_slopeAt 9 = .ok (.iadd, 1) := by decide +kernel
theorem dX8_slopeAt_10 : decode cX8_slopeAt 10 = .ok (.laload, 1) := by decide +kernel
theorem dX8_slopeAt_11 : decode cX8_slopeAt 11 = .ok (.lmul, 1) := by decide +kernel
theorem dX8_slopeAt_12 : decode cX8_slopeAt 12 = .ok (.lload_n 2, 1) := by decide +kernel
theorem dX8_slopeAt_13 : decode cX8_slopeAt 13 = .ok (.lmul, 1) := by decide +kernel
theorem dX8_slopeAt_14 : decode cX8_slopeAt 14 = .ok (.ldc2_w 166, 3) := by decide +kernel
theorem dX8_slopeAt_17 : decode cX8_slopeAt 17 = .ok (.aload_n 0, 1) := by decide +kernel
theorem dX8_slopeAt_18 : decode cX8_slopeAt 18 = .ok (.getfield 13, 3) := by decide +kernel
theorem dX8_slopeAt_21 : decode cX8_slopeAt 21 = .ok (.iload_n 1, 1) := by decide +kernel
theorem dX8_slopeAt_22 : decode cX8_slopeAt 22 = .ok (.iconst 2, 1) := by decide +kernel
theorem dX8_slopeAt_23 : decode cX8_slopeAt 23 = .ok (.iadd, 1) := by decide +kernel
theorem dX8_slopeAt_24 : decode cX8_slopeAt 24 = .ok (.laload, 1) := by decide +kernel
theorem dX8_slopeAt_25 : decode cX8_slopeAt 25 = .ok (.lmul, 1) := by decide +kernel
theorem dX8_slopeAt_26 : decode cX8_slopeAt 26 = .ok (.lload 4, 2) := by decide +kernel
theorem dX8_slopeAt_28 : decode cX8_slopeAt 28 = .ok (.lmul, 1) := by decide +kernel
theorem dX8_slopeAt_29 : decode cX8_slopeAt 29 = .ok (.ladd, 1) := by decide +kernel
theorem dX8_slopeAt_30 : decode cX8_slopeAt 30 = .ok (.lload_n 2, 1) := by decide +kernel
theorem dX8_slopeAt_31 : decode cX8_slopeAt 31 = .ok (.lmul, 1) := by decide +kernel
theorem dX8_slopeAt_32 : decode cX8_slopeAt 32 = .ok (.aload_n 0, 1) := by decide +kernel
theorem dX8_slopeAt_33 : decode cX8_slopeAt 33 = .ok (.getfield 13, 3) := by decide +kernel
theorem dX8_slopeAt_36 : decode cX8_slopeAt 36 = .ok (.iload_n 1, 1) := by decide +kernel
theorem dX8_slopeAt_37 : decode cX8_slopeAt 37 = .ok (.iconst 1, 1) := by decide +kernel
theorem dX8_slopeAt_38 : decode cX8_slopeAt 38 = .ok (.iadd, 1) := by decide +kernel
theorem dX8_slopeAt_39 : decode cX8_slopeAt 39 = .ok (.laload, 1) := by decide +kernel
theorem dX8_slopeAt_40 : decode cX8_slopeAt 40 = .ok (.lload 4, 2) := by decide +kernel
theorem dX8_slopeAt_42 : decode cX8_slopeAt 42 = .ok (.lmul, 1) := by decide +kernel
theorem dX8_slopeAt_43 : decode cX8_slopeAt 43 = .ok (.lload 4, 2) := by decide +kernel
theorem dX8_slopeAt_45 : decode cX8_slopeAt 45 = .ok (.lmul, 1) := by decide +kernel
theorem dX8_slopeAt_46 : decode cX8_slopeAt 46 = .ok (.ladd, 1) := by decide +kernel
theorem dX8_slopeAt_47 : decode cX8_slopeAt 47 = .ok (.lreturn, 1) := by decide +kernel
set_option maxRecDepth 20000 in
theorem ggX8_touch_X8_isTime : GoodIn wsX8_touch wsX8_isTime := goodIn_r _ [9, 10, 11, 12, 13, 8, 14] rfl (by decide +kernel)
set_option maxRecDepth 20000 in
theorem gX8_touch_X8_isTime : GoodIn wsX8_touch (va_wsS RX8 172 yX8_isTime wsX8_isTime) := goodIn_app (goodIn_of _ (by decide +kernel)) ggX8_touch_X8_isTime
set_option maxRecDepth 20000 in
theorem ggX8_touch_X8_in : GoodIn wsX8_touch wsX8_in := goodIn_r _ [14] rfl (by decide +kernel)
set_option maxRecDepth 20000 in
theorem gX8_touch_X8_in : GoodIn wsX8_touch (va_wsS RX8 79 yX8_in wsX8_in) := goodIn_app (goodIn_of _ (by decide +kernel)) ggX8_touch_X8_in
set_option maxRecDepth 20000 in
theorem ggX8_touch_X8_against : GoodIn wsX8_touch wsX8_against := goodIn_r _ [18, 19, 20, 21, 8, 22, 23, 12, 13, 14, 44, 45, 46, 47, 48, 49, 50, 51, 52, 53, 54, 55, 56, 57, 58, 59, 60, 61, 62] rfl (by decide +kernel)
set_option maxRecDepth 20000 in
theorem gX8_touch_X8_against : GoodIn wsX8_touch (wsV RX8 163 RX8 yX8_against wsX8_against) := goodIn_app (goodIn_of _ (by decide +kernel)) ggX8_touch_X8_against
set_option maxRecDepth 20000 in
theorem ggX8_touch_X8_valueAt : GoodIn wsX8_touch wsX8_valueAt := goodIn_r _ [27, 28, 44, 45, 46, 47, 48, 49, 50, 51, 52, 53, 54, 55, 56, 57, 58, 59, 60, 61, 62] rfl (by decide +kernel)
set_option maxRecDepth 20000 in
theorem gX8_touch_X8_valueAt : GoodIn wsX8_touch (wsV RX8 177 RX8 yX8_valueAt wsX8_valueAt) := goodIn_app (goodIn_of _ (by decide +kernel)) ggX8_touch_X8_valueAt
set_option maxRecDepth 20000 in
theorem ggX8_touch_X8_slopeAt : GoodIn wsX8_touch wsX8_slopeAt := goodIn_r _ [32, 23, 28, 1, 44, 45, 46, 47, 48, 49, 50, 51, 52, 53, 54, 55, 56, 57, 58, 59, 60, 61, 62] rfl (by decide +kernel)
set_option maxRecDepth 20000 in
theorem gX8_touch_X8_slopeAt : GoodIn wsX8_touch (wsV RX8 235 RX8 yX8_slopeAt wsX8_slopeAt) := goodIn_app (goodIn_of _ (by decide +kernel)) ggX8_touch_X8_slopeAt
set_option maxRecDepth 20000 in
theorem ggX8_touch_X8_cross : GoodIn wsX8_touch wsX8_cross := goodIn_r _ [36, 4, 44, 45, 46, 47, 48, 49, 50, 51, 52, 53, 54, 55, 56, 57, 58, 59, 60, 61, 62] rfl (by decide +kernel)
set_option maxRecDepth 20000 in
theorem gX8_touch_X8_cross : GoodIn wsX8_touch (wsV RX8 107 RX8 yX8_cross wsX8_cross) := goodIn_app (goodIn_of _ (by decide +kernel)) ggX8_touch_X8_cross
set_option maxRecDepth 20000 in
theorem ggX8_touch_X8_tidy : GoodIn wsX8_touch wsX8_tidy := goodIn_r _ [40, 3, 41, 42, 8, 43, 44, 45, 46, 47, 48, 49, 50, 51, 52, 53, 54, 55, 56, 57, 58, 59, 60, 61, 62] rfl (by decide +kernel)
set_option maxRecDepth 20000 in
theorem gX8_touch_X8_tidy : GoodIn wsX8_touch (wsV RX8 213 RX8 yX8_tidy wsX8_tidy) := goodIn_app (goodIn_of _ (by decide +kernel)) ggX8_touch_X8_tidy
theorem dX8_touch_0 : decode cX8_touch 0 = .ok (.iload_n 2, 1) := by decide +kernel
theorem dX8_touch_1 : decode cX8_touch 1 = .ok (.iload_n 3, 1) := by decide +kernel
theorem dX8_touch_2 : decode cX8_touch 2 = .ok (.invokestatic 172, 3) := by decide +kernel
theorem dX8_touch_5 : decode cX8_touch 5 = .ok (.ifCond .eq 16, 3) := by decide +kernel
theorem dX8_touch_8 : decode cX8_touch 8 = .ok (.iload 4, 2) := by decide +kernel
theorem dX8_touch_10 : decode cX8_touch 10 = .ok (.i2l, 1) := by decide +kernel
theorem dX8_touch_11 : decode cX8_touch 11 = .ok (.lconst 0, 1) := by decide +kernel
theorem dX8_touch_12 : decode cX8_touch 12 = .ok (.ldc2_w 166, 3) := by decide +kernel
theorem dX8_touch_15 : decode cX8_touch 15 = .ok (.invokestatic 79, 3) := by decide +kernel
theorem dX8_touch_18 : decode cX8_touch 18 = .ok (.ifCond .ne 7, 3) := by decide +kernel
theorem dX8_touch_21 : decode cX8_touch 21 = .ok (.iconst (-1), 1) := by decide +kernel
theorem dX8_touch_22 : decode cX8_touch 22 = .ok (.goto 8, 3) := by decide +kernel
theorem dX8_touch_25 : decode cX8_touch 25 = .ok (.aload_n 0, 1) := by decide +kernel
theorem dX8_touch_26 : decode cX8_touch 26 = .ok (.iload_n 1, 1) := by decide +kernel
theorem dX8_touch_27 : decode cX8_touch 27 = .ok (.invokevirtual 163, 3) := by decide +kernel
theorem dX8_touch_30 : decode cX8_touch 30 = .ok (.istore 5, 2) := by decide +kernel
theorem dX8_touch_32 : decode cX8_touch 32 = .ok (.iload 5, 2) := by decide +kernel
theorem dX8_touch_34 : decode cX8_touch 34 = .ok (.ifCond .ge 11, 3) := by decide +kernel
theorem dX8_touch_37 : decode cX8_touch 37 = .ok (.iload 5, 2) := by decide +kernel
theorem dX8_touch_39 : decode cX8_touch 39 = .ok (.i2l, 1) := by decide +kernel
theorem dX8_touch_40 : decode cX8_touch 40 = .ok (.ldc2_w 175, 3) := by decide +kernel
theorem dX8_touch_43 : decode cX8_touch 43 = .ok (.lsub, 1) := by decide +kernel
theorem dX8_touch_44 : decode cX8_touch 44 = .ok (.lreturn, 1) := by decide +kernel
theorem dX8_touch_45 : decode cX8_touch 45 = .ok (.bipush 12, 2) := by decide +kernel
theorem dX8_touch_47 : decode cX8_touch 47 = .ok (.iload_n 1, 1) := by decide +kernel
theorem dX8_touch_48 : decode cX8_touch 48 = .ok (.imul, 1) := by decide +kernel
theorem dX8_touch_49 : decode cX8_touch 49 = .ok (.istore 6, 2) := by decide +kernel
theorem dX8_touch_51 : decode cX8_touch 51 = .ok (.aload_n 0, 1) := by decide +kernel
theorem dX8_touch_52 : decode cX8_touch 52 = .ok (.aload_n 0, 1) := by decide +kernel
theorem dX8_touch_53 : decode cX8_touch 53 = .ok (.iload 6, 2) := by decide +kernel
theorem dX8_touch_55 : decode cX8_touch 55 = .ok (.iload_n 2, 1) := by decide +kernel
theorem dX8_touch_56 : decode cX8_touch 56 = .ok (.i2l, 1) := by decide +kernel
theorem dX8_touch_57 : decode cX8_touch 57 = .ok (.iload_n 3, 1) := by decide +kernel
theorem dX8_touch_58 : decode cX8_touch 58 = .ok (.i2l, 1) := by decide +kernel
theorem dX8_touch_59 : decode cX8_touch 59 = .ok (.invokevirtual 177, 3) := by decide +kernel
theorem dX8_touch_62 : decode cX8_touch 62 = .ok (.aload_n 0, 1) := by decide +kernel
theorem dX8_touch_63 : decode cX8_touch 63 = .ok (.iload 6, 2) := by decide +kernel
theorem dX8_touch_65 : decode cX8_touch 65 = .ok (.iconst 4, 1) := by decide +kernel
theorem dX8_touch_66 : decode cX8_touch 66 = .ok (.iadd, 1) := by decide +kernel
theorem dX8_touch_67 : decode cX8_touch 67 = .ok (.iload_n 2, 1) := by decide +kernel
theorem dX8_touch_68 : decode cX8_touch 68 = .ok (.i2l, 1) := by decide +kernel
theorem dX8_touch_69 : decode cX8_touch 69 = .ok (.iload_n 3, 1) := by decide +kernel
theorem dX8_touch_70 : decode cX8_touch 70 = .ok (.i2l, 1) := by decide +kernel
theorem dX8_touch_71 : decode cX8_touch 71 = .ok (.invokevirtual 177, 3) := by decide +kernel
theorem dX8_touch_74 : decode cX8_touch 74 = .ok (.aload_n 0, 1) := by decide +kernel
theorem dX8_touch_75 : decode cX8_touch 75 = .ok (.iload 6, 2) := by decide +kernel
theorem dX8_touch_77 : decode cX8_touch 77 = .ok (.bipush 8, 2) := by decide +kernel
theorem dX8_touch_79 : decode cX8_touch 79 = .ok (.iadd, 1) := by decide +kernel
theorem dX8_touch_80 : decode cX8_touch 80 = .ok (.iload_n 2, 1) := by decide +kernel
theorem dX8_touch_81 : decode cX8_touch 81 = .ok (.i2l, 1) := by decide +kernel
theorem dX8_touch_82 : decode cX8_touch 82 = .ok (.iload_n 3, 1) := by decide +kernel
theorem dX8_touch_83 : decode cX8_touch 83 = .ok (.i2l, 1) := by decide +kernel
theorem dX8_touch_84 : decode cX8_touch 84 = .ok (.invokevirtual 177, 3) := by decide +kernel
theorem dX8_touch_87 : decode cX8_touch 87 = .ok (.aload_n 0, 1) := by decide +kernel
theorem dX8_touch_88 : decode cX8_touch 88 = .ok (.iload 6, 2) := by decide +kernel
theorem dX8_touch_90 : decode cX8_touch 90 = .ok (.iload_n 2, 1) := by decide +kernel
theorem dX8_touch_91 : decode cX8_touch 91 = .ok (.i2l, 1) := by decide +kernel
theorem dX8_touch_92 : decode cX8_touch 92 = .ok (.iload_n 3, 1) := by decide +kernel
theorem dX8_touch_93 : decode cX8_touch 93 = .ok (.i2l, 1) := by decide +kernel
theorem dX8_touch_94 : decode cX8_touch 94 = .ok (.invokevirtual 235, 3) := by decide +kernel
theorem dX8_touch_97 : decode cX8_touch 97 = .ok (.aload_n 0, 1) := by decide +kernel
theorem dX8_touch_98 : decode cX8_touch 98 = .ok (.iload 6, 2) := by decide +kernel
theorem dX8_touch_100 : decode cX8_touch 100 = .ok (.iconst 4, 1) := by decide +kernel
theorem dX8_touch_101 : decode cX8_touch 101 = .ok (.iadd, 1) := by decide +kernel
theorem dX8_touch_102 : decode cX8_touch 102 = .ok (.iload_n 2, 1) := by decide +kernel
theorem dX8_touch_103 : decode cX8_touch 103 = .ok (.i2l, 1) := by decide +kernel
theorem dX8_touch_104 : decode cX8_touch 104 = .ok (.iload_n 3, 1) := by decide +kernel
theorem dX8_touch_105 : decode cX8_touch 105 = .ok (.i2l, 1) := by decide +kernel
theorem dX8_touch_106 : decode cX8_touch 106 = .ok (.invokevirtual 235, 3) := by decide +kernel
theorem dX8_touch_109 : decode cX8_touch 109 = .ok (.aload_n 0, 1) := by decide +kernel
theorem dX8_touch_110 : decode cX8_touch 110 = .ok (.iload 6, 2) := by decide +kernel
theorem dX8_touch_112 : decode cX8_touch 112 = .ok (.bipush 8, 2) := by decide +kernel
theorem dX8_touch_114 : decode cX8_touch 114 = .ok (.iadd, 1) := by decide +kernel
theorem dX8_touch_115 : decode cX8_touch 115 = .ok (.iload_n 2, 1) := by decide +kernel
theorem dX8_touch_116 : decode cX8_touch 116 = .ok (.i2l, 1) := by decide +kernel
theorem dX8_touch_117 : decode cX8_touch 117 = .ok (.iload_n 3, 1) := by decide +kernel
theorem dX8_touch_118 : decode cX8_touch 118 = .ok (.i2l, 1) := by decide +kernel
theorem dX8_touch_119 : decode cX8_touch 119 = .ok (.invokevirtual 235, 3) := by decide +kernel
theorem dX8_touch_122 : decode cX8_touch 122 = .ok (.invokevirtual 107, 3) := by decide +kernel
theorem dX8_touch_125 : decode cX8_touch 125 = .ok (.iconst 0, 1) := by decide +kernel
theorem dX8_touch_126 : decode cX8_touch 126 = .ok (.istore 7, 2) := by decide +kernel
theorem dX8_touch_128 : decode cX8_touch 128 = .ok (.iload 7, 2) := by decide +kernel
theorem dX8_touch_130 : decode cX8_touch 130 = .ok (.iconst 3, 1) := by decide +kernel
theorem dX8_touch_131 : decode cX8_touch 131 = .ok (.if_icmp .ge 23, 3) := by decide +kernel
theorem dX8_touch_134 : decode cX8_touch 134 = .ok (.aload_n 0, 1) := by decide +kernel
theorem dX8_touch_135 : decode cX8_touch 135 = .ok (.getfield 33, 3) := by decide +kernel
theorem dX8_touch_138 : decode cX8_touch 138 = .ok (.iload 7, 2) := by decide +kernel
theorem dX8_touch_140 : decode cX8_touch 140 = .ok (.aload_n 0, 1) := by decide +kernel
theorem dX8_touch_141 : decode cX8_touch 141 = .ok (.getfield 26, 3) := by decide +kernel
theorem dX8_touch_144 : decode cX8_touch 144 = .ok (.iload 7, 2) := by decide +kernel
theorem dX8_touch_146 : decode cX8_touch 146 = .ok (.laload, 1) := by decide +kernel
theorem dX8_touch_147 : decode cX8_touch 147 = .ok (.lastore, 1) := by decide +kernel
theorem dX8_touch_148 : decode cX8_touch 148 = .ok (.iinc 7 1, 3) := by decide +kernel
theorem dX8_touch_151 : decode cX8_touch 151 = .ok (.goto (-23), 3) := by decide +kernel
theorem dX8_touch_154 : decode cX8_touch 154 = .ok (.aload_n 0, 1) := by decide +kernel
theorem dX8_touch_155 : decode cX8_touch 155 = .ok (.getfield 33, 3) := by decide +kernel
theorem dX8_touch_158 : decode cX8_touch 158 = .ok (.iconst 0, 1) := by decide +kernel
theorem dX8_touch_159 : decode cX8_touch 159 = .ok (.laload, 1) := by decide +kernel
theorem dX8_touch_160 : decode cX8_touch 160 = .ok (.lconst 0, 1) := by decide +kernel
theorem dX8_touch_161 : decode cX8_touch 161 = .ok (.lcmp, 1) := by decide +kernel
theorem dX8_touch_162 : decode cX8_touch 162 = .ok (.ifCond .ne 29, 3) := by decide +kernel
theorem dX8_touch_165 : decode cX8_touch 165 = .ok (.aload_n 0, 1) := by decide +kernel
theorem dX8_touch_166 : decode cX8_touch 166 = .ok (.getfield 33, 3) := by decide +kernel
theorem dX8_touch_169 : decode cX8_touch 169 = .ok (.iconst 1, 1) := by decide +kernel
theorem dX8_touch_170 : decode cX8_touch 170 = .ok (.laload, 1) := by decide +kernel
theorem dX8_touch_171 : decode cX8_touch 171 = .ok (.lconst 0, 1) := by decide +kernel
theorem dX8_touch_172 : decode cX8_touch 172 = .ok (.lcmp, 1) := by decide +kernel
theorem dX8_touch_173 : decode cX8_touch 173 = .ok (.ifCond .ne 18, 3) := by decide +kernel
theorem dX8_touch_176 : decode cX8_touch 176 = .ok (.aload_n 0, 1) := by decide +kernel
theorem dX8_touch_177 : decode cX8_touch 177 = .ok (.getfield 33, 3) := by decide +kernel
theorem dX8_touch_180 : decode cX8_touch 180 = .ok (.iconst 2, 1) := by decide +kernel
theorem dX8_touch_181 : decode cX8_touch 181 = .ok (.laload, 1) := by decide +kernel
theorem dX8_touch_182 : decode cX8_touch 182 = .ok (.lconst 0, 1) := by decide +kernel
theorem dX8_touch_183 : decode cX8_touch 183 = .ok (.lcmp, 1) := by decide +kernel
theorem dX8_touch_184 : decode cX8_touch 184 = .ok (.ifCond .ne 7, 3) := by decide +kernel
theorem dX8_touch_187 : decode cX8_touch 187 = .ok (.ldc2_w 181, 3) := by decide +kernel
theorem dX8_touch_190 : decode cX8_touch 190 = .ok (.lreturn, 1) := by decide +kernel
theorem dX8_touch_191 : decode cX8_touch 191 = .ok (.aload_n 0, 1) := by decide +kernel
theorem dX8_touch_192 : decode cX8_touch 192 = .ok (.iconst 0, 1) := by decide +kernel
theorem dX8_touch_193 : decode cX8_touch 193 = .ok (.invokevirtual 213, 3) := by decide +kernel
theorem dX8_touch_196 : decode cX8_touch 196 = .ok (.aload_n 0, 1) := by decide +kernel
theorem dX8_touch_197 : decode cX8_touch 197 = .ok (.getfield 33, 3) := by decide +kernel
theorem dX8_touch_200 : decode cX8_touch 200 = .ok (.iload 4, 2) := by decide +kernel
theorem dX8_touch_202 : decode cX8_touch 202 = .ok (.laload, 1) := by decide +kernel
theorem dX8_touch_203 : decode cX8_touch 203 = .ok (.lreturn, 1) := by decide +kernel
set_option maxRecDepth 20000 in
theorem ggX8_same_X8_isLine : GoodIn wsX8_same wsX8_isLine := goodIn_r _ [8, 9, 10, 11, 7, 12] rfl (by decide +kernel)
set_option maxRecDepth 20000 in
theorem gX8_same_X8_isLine : GoodIn wsX8_same (va_wsS RX8 124 yX8_isLine wsX8_isLine) := goodIn_app (goodIn_of _ (by decide +kernel)) ggX8_same_X8_isLine
set_option maxRecDepth 20000 in
theorem ggX8_same_X8_kindOf : GoodIn wsX8_same wsX8_kindOf := goodIn_r _ [16, 17, 18, 19, 7, 20, 2, 21, 22, 23, 24, 25, 26, 27, 28, 29, 30, 31, 32, 33, 34, 35, 36, 58, 59, 60, 61, 62, 63, 64, 65, 66, 67, 68, 69, 70, 71, 72, 73, 74, 75, 76] rfl (by decide +kernel)
set_option maxRecDepth 20000 in
theorem gX8_same_X8_kindOf : GoodIn wsX8_same (wsV RX8 103 RX8 yX8_kindOf wsX8_kindOf) := goodIn_app (goodIn_of _ (by decide +kernel)) ggX8_same_X8_kindOf
set_option maxRecDepth 20000 in
theorem ggX8_same_X8_findEquation : GoodIn wsX8_same wsX8_findEquation := goodIn_r _ [40, 4, 41, 28, 42, 43, 13, 14, 15, 7, 16, 17, 18, 19, 20, 2, 21, 22, 23, 24, 25, 26, 27, 29, 30, 31, 32, 33, 34, 35, 36, 44, 45, 46, 47, 48, 49, 50, 51, 52, 53, 54, 55, 56, 57, 58, 59, 60, 61, 62, 63, 64, 65, 66, 67, 68, 69, 70, 71, 72, 73, 74, 75, 76] rfl (by decide +kernel)
set_option maxRecDepth 20000 in
theorem gX8_same_X8_findEquation : GoodIn wsX8_same (wsV RX8 199 RX8 yX8_findEquation wsX8_findEquation) := goodIn_app (goodIn_of _ (by decide +kernel)) ggX8_same_X8_findEquation
theorem dX8_same_0 : decode cX8_same 0 = .ok (.iload_n 1, 1) := by decide +kernel
theorem dX8_same_1 : decode cX8_same 1 = .ok (.invokestatic 124, 3) := by decide +kernel
theorem dX8_same_4 : decode cX8_same 4 = .ok (.ifCond .eq 10, 3) := by decide +kernel
theorem dX8_same_7 : decode cX8_same 7 = .ok (.iload_n 2, 1) := by decide +kernel
theorem dX8_same_8 : decode cX8_same 8 = .ok (.invokestatic 124, 3) := by decide +kernel
theorem dX8_same_11 : decode cX8_same 11 = .ok (.ifCond .ne 5, 3) := by decide +kernel
theorem dX8_same_14 : decode cX8_same 14 = .ok (.iconst (-1), 1) := by decide +kernel
theorem dX8_same_15 : decode cX8_same 15 = .ok (.ireturn, 1) := by decide +kernel
theorem dX8_same_16 : decode cX8_same 16 = .ok (.aload_n 0, 1) := by decide +kernel
theorem dX8_same_17 : decode cX8_same 17 = .ok (.getfield 7, 3) := by decide +kernel
theorem dX8_same_20 : decode cX8_same 20 = .ok (.iload_n 1, 1) := by decide +kernel
theorem dX8_same_21 : decode cX8_same 21 = .ok (.baload, 1) := by decide +kernel
theorem dX8_same_22 : decode cX8_same 22 = .ok (.ifCond .eq 12, 3) := by decide +kernel
theorem dX8_same_25 : decode cX8_same 25 = .ok (.aload_n 0, 1) := by decide +kernel
theorem dX8_same_26 : decode cX8_same 26 = .ok (.getfield 7, 3) := by decide +kernel
theorem dX8_same_29 : decode cX8_same 29 = .ok (.iload_n 2, 1) := by decide +kernel
theorem dX8_same_30 : decode cX8_same 30 = .ok (.baload, 1) := by decide +kernel
theorem dX8_same_31 : decode cX8_same 31 = .ok (.ifCond .ne 6, 3) := by decide +kernel
theorem dX8_same_34 : decode cX8_same 34 = .ok (.bipush (-2), 2) := by decide +kernel
theorem dX8_same_36 : decode cX8_same 36 = .ok (.ireturn, 1) := by decide +kernel
theorem dX8_same_37 : decode cX8_same 37 = .ok (.aload_n 0, 1) := by decide +kernel
theorem dX8_same_38 : decode cX8_same 38 = .ok (.iload_n 1, 1) := by decide +kernel
theorem dX8_same_39 : decode cX8_same 39 = .ok (.invokevirtual 103, 3) := by decide +kernel
theorem dX8_same_42 : decode cX8_same 42 = .ok (.istore_n 3, 1) := by decide +kernel
theorem dX8_same_43 : decode cX8_same 43 = .ok (.iload_n 3, 1) := by decide +kernel
theorem dX8_same_44 : decode cX8_same 44 = .ok (.aload_n 0, 1) := by decide +kernel
theorem dX8_same_45 : decode cX8_same 45 = .ok (.iload_n 2, 1) := by decide +kernel
theorem dX8_same_46 : decode cX8_same 46 = .ok (.invokevirtual 103, 3) := by decide +kernel
theorem dX8_same_49 : decode cX8_same 49 = .ok (.if_icmp .eq 5, 3) := by decide +kernel
theorem dX8_same_52 : decode cX8_same 52 = .ok (.iconst 0, 1) := by decide +kernel
theorem dX8_same_53 : decode cX8_same 53 = .ok (.ireturn, 1) := by decide +kernel
theorem dX8_same_54 : decode cX8_same 54 = .ok (.iconst 1, 1) := by decide +kernel
theorem dX8_same_55 : decode cX8_same 55 = .ok (.istore 4, 2) := by decide +kernel
theorem dX8_same_57 : decode cX8_same 57 = .ok (.iload_n 3, 1) := by decide +kernel
theorem dX8_same_58 : decode cX8_same 58 = .ok (.ifCond .ne 70, 3) := by decide +kernel
theorem dX8_same_61 : decode cX8_same 61 = .ok (.iconst 0, 1) := by decide +kernel
theorem dX8_same_62 : decode cX8_same 62 = .ok (.istore 5, 2) := by decide +kernel
theorem dX8_same_64 : decode cX8_same 64 = .ok (.iload 5, 2) := by decide +kernel
theorem dX8_same_66 : decode cX8_same 66 = .ok (.bipush 12, 2) := by decide +kernel
theorem dX8_same_68 : decode cX8_same 68 = .ok (.if_icmp .ge 49, 3) := by decide +kernel
theorem dX8_same_71 : decode cX8_same 71 = .ok (.iload 4, 2) := by decide +kernel
theorem dX8_same_73 : decode cX8_same 73 = .ok (.ifCond .eq 35, 3) := by decide +kernel
theorem dX8_same_76 : decode cX8_same 76 = .ok (.aload_n 0, 1) := by decide +kernel
theorem dX8_same_77 : decode cX8_same 77 = .ok (.getfield 13, 3) := by decide +kernel
theorem dX8_same_80 : decode cX8_same 80 = .ok (.bipush 12, 2) := by decide +kernel
theorem dX8_same_82 : decode cX8_same 82 = .ok (.iload_n 1, 1) := by decide +kernel
theorem dX8_same_83 : decode cX8_same 83 = .ok (.imul, 1) := by decide +kernel
theorem dX8_same_84 : decode cX8_same 84 = .ok (.iload 5, 2) := by decide +kernel
theorem dX8_same_86 : decode cX8_same 86 = .ok (.iadd, 1) := by decide +kernel
theorem dX8_same_87 : decode cX8_same 87 = .ok (.laload, 1) := by decide +kernel
theorem dX8_same_88 : decode cX8_same 88 = .ok (.aload_n 0, 1) := by decide +kernel
theorem dX8_same_89 : decode cX8_same 89 = .ok (.getfield 13, 3) := by decide +kernel
theorem dX8_same_92 : decode cX8_same 92 = .ok (.bipush 12, 2) := by decide +kernel
theorem dX8_same_94 : decode cX8_same 94 = .ok (.iload_n 2, 1) := by decide +kernel
theorem dX8_same_95 : decode cX8_same 95 = .ok (.imul, 1) := by decide +kernel
theorem dX8_same_96 : decode cX8_same 96 = .ok (.iload 5, 2) := by decide +kernel
theorem dX8_same_98 : decode cX8_same 98 = .ok (.iadd, 1) := by decide +kernel
theorem dX8_same_99 : decode cX8_same 99 = .ok (.laload, 1) := by decide +kernel
theorem dX8_same_100 : decode cX8_same 100 = .ok (.lcmp, 1) := by decide +kernel
theorem dX8_same_101 : decode cX8_same 101 = .ok (.ifCond .ne 7, 3) := by decide +kernel
theorem dX8_same_104 : decode cX8_same 104 = .ok (.iconst 1, 1) := by decide +kernel
theorem dX8_same_105 : decode cX8_same 105 = .ok (.goto 4, 3) := by decide +kernel
theorem dX8_same_108 : decode cX8_same 108 = .ok (.iconst 0, 1) := by decide +kernel
theorem dX8_same_109 : decode cX8_same 109 = .ok (.istore 4, 2) := by decide +kernel
theorem dX8_same_111 : decode cX8_same 111 = .ok (.iinc 5 1, 3) := by decide +kernel
theorem dX8_same_114 : decode cX8_same 114 = .ok (.goto (-50), 3) := by decide +kernel
theorem dX8_same_117 : decode cX8_same 117 = .ok (.iload 4, 2) := by decide +kernel
theorem dX8_same_119 : decode cX8_same 119 = .ok (.ifCond .eq 7, 3) := by decide +kernel
theorem dX8_same_122 : decode cX8_same 122 = .ok (.iconst 1, 1) := by decide +kernel
theorem dX8_same_123 : decode cX8_same 123 = .ok (.goto 4, 3) := by decide +kernel
theorem dX8_same_126 : decode cX8_same 126 = .ok (.iconst 0, 1) := by decide +kernel
theorem dX8_same_127 : decode cX8_same 127 = .ok (.ireturn, 1) := by decide +kernel
theorem dX8_same_128 : decode cX8_same 128 = .ok (.aload_n 0, 1) := by decide +kernel
theorem dX8_same_129 : decode cX8_same 129 = .ok (.iload_n 1, 1) := by decide +kernel
theorem dX8_same_130 : decode cX8_same 130 = .ok (.invokevirtual 199, 3) := by decide +kernel
theorem dX8_same_133 : decode cX8_same 133 = .ok (.iconst 0, 1) := by decide +kernel
