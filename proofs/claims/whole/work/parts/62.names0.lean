theorem dX0_init_0 : decode cX0_init 0 = .ok (.aload_n 0, 1) := by decide +kernel
theorem dX0_init_1 : decode cX0_init 1 = .ok (.invokespecial 3, 3) := by decide +kernel
theorem dX0_init_4 : decode cX0_init 4 = .ok (.aload_n 0, 1) := by decide +kernel
theorem dX0_init_5 : decode cX0_init 5 = .ok (.bipush 12, 2) := by decide +kernel
theorem dX0_init_7 : decode cX0_init 7 = .ok (.newarray .long, 2) := by decide +kernel
theorem dX0_init_9 : decode cX0_init 9 = .ok (.putfield 9, 3) := by decide +kernel
theorem dX0_init_12 : decode cX0_init 12 = .ok (.aload_n 0, 1) := by decide +kernel
theorem dX0_init_13 : decode cX0_init 13 = .ok (.bipush 10, 2) := by decide +kernel
theorem dX0_init_15 : decode cX0_init 15 = .ok (.newarray .long, 2) := by decide +kernel
theorem dX0_init_17 : decode cX0_init 17 = .ok (.putfield 15, 3) := by decide +kernel
theorem dX0_init_20 : decode cX0_init 20 = .ok (.aload_n 0, 1) := by decide +kernel
theorem dX0_init_21 : decode cX0_init 21 = .ok (.bipush 6, 2) := by decide +kernel
theorem dX0_init_23 : decode cX0_init 23 = .ok (.newarray .long, 2) := by decide +kernel
theorem dX0_init_25 : decode cX0_init 25 = .ok (.putfield 18, 3) := by decide +kernel
theorem dX0_init_28 : decode cX0_init 28 = .ok (.aload_n 0, 1) := by decide +kernel
theorem dX0_init_29 : decode cX0_init 29 = .ok (.iconst 3, 1) := by decide +kernel
theorem dX0_init_30 : decode cX0_init 30 = .ok (.newarray .long, 2) := by decide +kernel
theorem dX0_init_32 : decode cX0_init 32 = .ok (.putfield 21, 3) := by decide +kernel
theorem dX0_init_35 : decode cX0_init 35 = .ok (.return_, 1) := by decide +kernel
theorem dX0_placeInEquation_0 : decode cX0_placeInEquation 0 = .ok (.getstatic 24, 3) := by decide +kernel
theorem dX0_placeInEquation_3 : decode cX0_placeInEquation 3 = .ok (.iload_n 0, 1) := by decide +kernel
theorem dX0_placeInEquation_4 : decode cX0_placeInEquation 4 = .ok (.iload_n 1, 1) := by decide +kernel
theorem dX0_placeInEquation_5 : decode cX0_placeInEquation 5 = .ok (.iadd, 1) := by decide +kernel
theorem dX0_placeInEquation_6 : decode cX0_placeInEquation 6 = .ok (.iconst 0, 1) := by decide +kernel
theorem dX0_placeInEquation_7 : decode cX0_placeInEquation 7 = .ok (.invokestatic 28, 3) := by decide +kernel
theorem dX0_placeInEquation_10 : decode cX0_placeInEquation 10 = .ok (.iconst 3, 1) := by decide +kernel
theorem dX0_placeInEquation_11 : decode cX0_placeInEquation 11 = .ok (.invokestatic 34, 3) := by decide +kernel
theorem dX0_placeInEquation_14 : decode cX0_placeInEquation 14 = .ok (.iaload, 1) := by decide +kernel
theorem dX0_placeInEquation_15 : decode cX0_placeInEquation 15 = .ok (.iload_n 1, 1) := by decide +kernel
theorem dX0_placeInEquation_16 : decode cX0_placeInEquation 16 = .ok (.iadd, 1) := by decide +kernel
theorem dX0_placeInEquation_17 : decode cX0_placeInEquation 17 = .ok (.ireturn, 1) := by decide +kernel
theorem dX0_number_0 : decode cX0_number 0 = .ok (.iload_n 1, 1) := by decide +kernel
theorem dX0_number_1 : decode cX0_number 1 = .ok (.ifCond .lt 17, 3) := by decide +kernel
theorem dX0_number_4 : decode cX0_number 4 = .ok (.iload_n 1, 1) := by decide +kernel
theorem dX0_number_5 : decode cX0_number 5 = .ok (.iconst 2, 1) := by decide +kernel
theorem dX0_number_6 : decode cX0_number 6 = .ok (.if_icmp .gt 12, 3) := by decide +kernel
theorem dX0_number_9 : decode cX0_number 9 = .ok (.iload_n 2, 1) := by decide +kernel
theorem dX0_number_10 : decode cX0_number 10 = .ok (.ifCond .lt 8, 3) := by decide +kernel
theorem dX0_number_13 : decode cX0_number 13 = .ok (.iload_n 2, 1) := by decide +kernel
theorem dX0_number_14 : decode cX0_number 14 = .ok (.iconst 4, 1) := by decide +kernel
theorem dX0_number_15 : decode cX0_number 15 = .ok (.if_icmp .lt 7, 3) := by decide +kernel
theorem dX0_number_18 : decode cX0_number 18 = .ok (.lconst 0, 1) := by decide +kernel
theorem dX0_number_19 : decode cX0_number 19 = .ok (.goto 13, 3) := by decide +kernel
theorem dX0_number_22 : decode cX0_number 22 = .ok (.aload_n 0, 1) := by decide +kernel
theorem dX0_number_23 : decode cX0_number 23 = .ok (.getfield 9, 3) := by decide +kernel
theorem dX0_number_26 : decode cX0_number 26 = .ok (.iconst 4, 1) := by decide +kernel
theorem dX0_number_27 : decode cX0_number 27 = .ok (.iload_n 1, 1) := by decide +kernel
theorem dX0_number_28 : decode cX0_number 28 = .ok (.imul, 1) := by decide +kernel
theorem dX0_number_29 : decode cX0_number 29 = .ok (.iload_n 2, 1) := by decide +kernel
theorem dX0_number_30 : decode cX0_number 30 = .ok (.iadd, 1) := by decide +kernel
theorem dX0_number_31 : decode cX0_number 31 = .ok (.laload, 1) := by decide +kernel
theorem dX0_number_32 : decode cX0_number 32 = .ok (.lreturn, 1) := by decide +kernel
set_option maxRecDepth 20000 in
theorem ggX0_combined_X0_number : GoodIn wsX0_combined wsX0_number := goodIn_r _ [5, 6, 7, 8, 9, 10, 11, 12, 13, 14] rfl (by decide +kernel)
set_option maxRecDepth 20000 in
theorem gX0_combined_X0_number : GoodIn wsX0_combined (wsV RX0 37 RX0 yX0_number wsX0_number) := goodIn_app (goodIn_of _ (by decide +kernel)) ggX0_combined_X0_number
theorem dX0_combined_0 : decode cX0_combined 0 = .ok (.lload_n 1, 1) := by decide +kernel
theorem dX0_combined_1 : decode cX0_combined 1 = .ok (.aload_n 0, 1) := by decide +kernel
theorem dX0_combined_2 : decode cX0_combined 2 = .ok (.iconst 0, 1) := by decide +kernel
theorem dX0_combined_3 : decode cX0_combined 3 = .ok (.iload 7, 2) := by decide +kernel
theorem dX0_combined_5 : decode cX0_combined 5 = .ok (.invokevirtual 37, 3) := by decide +kernel
theorem dX0_combined_8 : decode cX0_combined 8 = .ok (.lmul, 1) := by decide +kernel
theorem dX0_combined_9 : decode cX0_combined 9 = .ok (.lload_n 3, 1) := by decide +kernel
theorem dX0_combined_10 : decode cX0_combined 10 = .ok (.aload_n 0, 1) := by decide +kernel
theorem dX0_combined_11 : decode cX0_combined 11 = .ok (.iconst 1, 1) := by decide +kernel
theorem dX0_combined_12 : decode cX0_combined 12 = .ok (.iload 7, 2) := by decide +kernel
theorem dX0_combined_14 : decode cX0_combined 14 = .ok (.invokevirtual 37, 3) := by decide +kernel
theorem dX0_combined_17 : decode cX0_combined 17 = .ok (.lmul, 1) := by decide +kernel
theorem dX0_combined_18 : decode cX0_combined 18 = .ok (.ladd, 1) := by decide +kernel
theorem dX0_combined_19 : decode cX0_combined 19 = .ok (.lload 5, 2) := by decide +kernel
theorem dX0_combined_21 : decode cX0_combined 21 = .ok (.aload_n 0, 1) := by decide +kernel
theorem dX0_combined_22 : decode cX0_combined 22 = .ok (.iconst 2, 1) := by decide +kernel
theorem dX0_combined_23 : decode cX0_combined 23 = .ok (.iload 7, 2) := by decide +kernel
theorem dX0_combined_25 : decode cX0_combined 25 = .ok (.invokevirtual 37, 3) := by decide +kernel
theorem dX0_combined_28 : decode cX0_combined 28 = .ok (.lmul, 1) := by decide +kernel
theorem dX0_combined_29 : decode cX0_combined 29 = .ok (.ladd, 1) := by decide +kernel
theorem dX0_combined_30 : decode cX0_combined 30 = .ok (.lreturn, 1) := by decide +kernel
set_option maxRecDepth 20000 in
theorem ggX0_value_X0_number : GoodIn wsX0_value wsX0_number := goodIn_r _ [5, 6, 7, 8, 9, 10, 11, 12, 13, 14] rfl (by decide +kernel)
set_option maxRecDepth 20000 in
theorem gX0_value_X0_number : GoodIn wsX0_value (wsV RX0 37 RX0 yX0_number wsX0_number) := goodIn_app (goodIn_of _ (by decide +kernel)) ggX0_value_X0_number
theorem dX0_value_0 : decode cX0_value 0 = .ok (.aload_n 0, 1) := by decide +kernel
theorem dX0_value_1 : decode cX0_value 1 = .ok (.iload_n 1, 1) := by decide +kernel
theorem dX0_value_2 : decode cX0_value 2 = .ok (.iconst 3, 1) := by decide +kernel
theorem dX0_value_3 : decode cX0_value 3 = .ok (.invokevirtual 37, 3) := by decide +kernel
theorem dX0_value_6 : decode cX0_value 6 = .ok (.lload_n 2, 1) := by decide +kernel
theorem dX0_value_7 : decode cX0_value 7 = .ok (.lmul, 1) := by decide +kernel
theorem dX0_value_8 : decode cX0_value 8 = .ok (.aload_n 0, 1) := by decide +kernel
theorem dX0_value_9 : decode cX0_value 9 = .ok (.iload_n 1, 1) := by decide +kernel
theorem dX0_value_10 : decode cX0_value 10 = .ok (.iconst 2, 1) := by decide +kernel
theorem dX0_value_11 : decode cX0_value 11 = .ok (.invokevirtual 37, 3) := by decide +kernel
theorem dX0_value_14 : decode cX0_value 14 = .ok (.lload 4, 2) := by decide +kernel
theorem dX0_value_16 : decode cX0_value 16 = .ok (.lmul, 1) := by decide +kernel
theorem dX0_value_17 : decode cX0_value 17 = .ok (.ladd, 1) := by decide +kernel
theorem dX0_value_18 : decode cX0_value 18 = .ok (.lload_n 2, 1) := by decide +kernel
theorem dX0_value_19 : decode cX0_value 19 = .ok (.lmul, 1) := by decide +kernel
theorem dX0_value_20 : decode cX0_value 20 = .ok (.aload_n 0, 1) := by decide +kernel
theorem dX0_value_21 : decode cX0_value 21 = .ok (.iload_n 1, 1) := by decide +kernel
theorem dX0_value_22 : decode cX0_value 22 = .ok (.iconst 1, 1) := by decide +kernel
theorem dX0_value_23 : decode cX0_value 23 = .ok (.invokevirtual 37, 3) := by decide +kernel
theorem dX0_value_26 : decode cX0_value 26 = .ok (.lload 4, 2) := by decide +kernel
theorem dX0_value_28 : decode cX0_value 28 = .ok (.lmul, 1) := by decide +kernel
theorem dX0_value_29 : decode cX0_value 29 = .ok (.lload 4, 2) := by decide +kernel
theorem dX0_value_31 : decode cX0_value 31 = .ok (.lmul, 1) := by decide +kernel
theorem dX0_value_32 : decode cX0_value 32 = .ok (.ladd, 1) := by decide +kernel
theorem dX0_value_33 : decode cX0_value 33 = .ok (.lload_n 2, 1) := by decide +kernel
theorem dX0_value_34 : decode cX0_value 34 = .ok (.lmul, 1) := by decide +kernel
theorem dX0_value_35 : decode cX0_value 35 = .ok (.aload_n 0, 1) := by decide +kernel
theorem dX0_value_36 : decode cX0_value 36 = .ok (.iload_n 1, 1) := by decide +kernel
theorem dX0_value_37 : decode cX0_value 37 = .ok (.iconst 0, 1) := by decide +kernel
theorem dX0_value_38 : decode cX0_value 38 = .ok (.invokevirtual 37, 3) := by decide +kernel
theorem dX0_value_41 : decode cX0_value 41 = .ok (.lload 4, 2) := by decide +kernel
theorem dX0_value_43 : decode cX0_value 43 = .ok (.lmul, 1) := by decide +kernel
theorem dX0_value_44 : decode cX0_value 44 = .ok (.lload 4, 2) := by decide +kernel
theorem dX0_value_46 : decode cX0_value 46 = .ok (.lmul, 1) := by decide +kernel
theorem dX0_value_47 : decode cX0_value 47 = .ok (.lload 4, 2) := by decide +kernel
theorem dX0_value_49 : decode cX0_value 49 = .ok (.lmul, 1) := by decide +kernel
theorem dX0_value_50 : decode cX0_value 50 = .ok (.ladd, 1) := by decide +kernel
theorem dX0_value_51 : decode cX0_value 51 = .ok (.lreturn, 1) := by decide +kernel
set_option maxRecDepth 20000 in
theorem ggX0_growth_X0_number : GoodIn wsX0_growth wsX0_number := goodIn_r _ [7, 8, 9, 10, 11, 12, 13, 14, 15, 16] rfl (by decide +kernel)
set_option maxRecDepth 20000 in
theorem gX0_growth_X0_number : GoodIn wsX0_growth (wsV RX0 37 RX0 yX0_number wsX0_number) := goodIn_app (goodIn_of _ (by decide +kernel)) ggX0_growth_X0_number
theorem dX0_growth_0 : decode cX0_growth 0 = .ok (.ldc2_w 41, 3) := by decide +kernel
theorem dX0_growth_3 : decode cX0_growth 3 = .ok (.aload_n 0, 1) := by decide +kernel
theorem dX0_growth_4 : decode cX0_growth 4 = .ok (.iload_n 1, 1) := by decide +kernel
theorem dX0_growth_5 : decode cX0_growth 5 = .ok (.iconst 3, 1) := by decide +kernel
theorem dX0_growth_6 : decode cX0_growth 6 = .ok (.invokevirtual 37, 3) := by decide +kernel
theorem dX0_growth_9 : decode cX0_growth 9 = .ok (.lmul, 1) := by decide +kernel
theorem dX0_growth_10 : decode cX0_growth 10 = .ok (.lload_n 2, 1) := by decide +kernel
theorem dX0_growth_11 : decode cX0_growth 11 = .ok (.lmul, 1) := by decide +kernel
theorem dX0_growth_12 : decode cX0_growth 12 = .ok (.ldc2_w 43, 3) := by decide +kernel
theorem dX0_growth_15 : decode cX0_growth 15 = .ok (.aload_n 0, 1) := by decide +kernel
theorem dX0_growth_16 : decode cX0_growth 16 = .ok (.iload_n 1, 1) := by decide +kernel
theorem dX0_growth_17 : decode cX0_growth 17 = .ok (.iconst 2, 1) := by decide +kernel
theorem dX0_growth_18 : decode cX0_growth 18 = .ok (.invokevirtual 37, 3) := by decide +kernel
theorem dX0_growth_21 : decode cX0_growth 21 = .ok (.lmul, 1) := by decide +kernel
theorem dX0_growth_22 : decode cX0_growth 22 = .ok (.lload 4, 2) := by decide +kernel
theorem dX0_growth_24 : decode cX0_growth 24 = .ok (.lmul, 1) := by decide +kernel
theorem dX0_growth_25 : decode cX0_growth 25 = .ok (.ladd, 1) := by decide +kernel
theorem dX0_growth_26 : decode cX0_growth 26 = .ok (.lload_n 2, 1) := by decide +kernel
theorem dX0_growth_27 : decode cX0_growth 27 = .ok (.lmul, 1) := by decide +kernel
theorem dX0_growth_28 : decode cX0_growth 28 = .ok (.aload_n 0, 1) := by decide +kernel
theorem dX0_growth_29 : decode cX0_growth 29 = .ok (.iload_n 1, 1) := by decide +kernel
theorem dX0_growth_30 : decode cX0_growth 30 = .ok (.iconst 1, 1) := by decide +kernel
theorem dX0_growth_31 : decode cX0_growth 31 = .ok (.invokevirtual 37, 3) := by decide +kernel
theorem dX0_growth_34 : decode cX0_growth 34 = .ok (.lload 4, 2) := by decide +kernel
theorem dX0_growth_36 : decode cX0_growth 36 = .ok (.lmul, 1) := by decide +kernel
theorem dX0_growth_37 : decode cX0_growth 37 = .ok (.lload 4, 2) := by decide +kernel
theorem dX0_growth_39 : decode cX0_growth 39 = .ok (.lmul, 1) := by decide +kernel
theorem dX0_growth_40 : decode cX0_growth 40 = .ok (.ladd, 1) := by decide +kernel
theorem dX0_growth_41 : decode cX0_growth 41 = .ok (.lreturn, 1) := by decide +kernel
theorem dX0_equationDegree_0 : decode cX0_equationDegree 0 = .ok (.aload_n 0, 1) := by decide +kernel
theorem dX0_equationDegree_1 : decode cX0_equationDegree 1 = .ok (.getfield 45, 3) := by decide +kernel
theorem dX0_equationDegree_4 : decode cX0_equationDegree 4 = .ok (.iconst 1, 1) := by decide +kernel
theorem dX0_equationDegree_5 : decode cX0_equationDegree 5 = .ok (.if_icmp .ne 7, 3) := by decide +kernel
theorem dX0_equationDegree_8 : decode cX0_equationDegree 8 = .ok (.iconst 1, 1) := by decide +kernel
theorem dX0_equationDegree_9 : decode cX0_equationDegree 9 = .ok (.goto 7, 3) := by decide +kernel
theorem dX0_equationDegree_12 : decode cX0_equationDegree 12 = .ok (.aload_n 0, 1) := by decide +kernel
theorem dX0_equationDegree_13 : decode cX0_equationDegree 13 = .ok (.getfield 49, 3) := by decide +kernel
theorem dX0_equationDegree_16 : decode cX0_equationDegree 16 = .ok (.ireturn, 1) := by decide +kernel
set_option maxRecDepth 20000 in
theorem ggX0_holds_X0_number : GoodIn wsX0_holds wsX0_number := goodIn_r _ [7, 8, 23, 24, 25, 26, 27, 28, 29, 30] rfl (by decide +kernel)
set_option maxRecDepth 20000 in
theorem gX0_holds_X0_number : GoodIn wsX0_holds (wsV RX0 37 RX0 yX0_number wsX0_number) := goodIn_app (goodIn_of _ (by decide +kernel)) ggX0_holds_X0_number
set_option maxRecDepth 20000 in
theorem ggX0_holds_X0_placeInEquation : GoodIn wsX0_holds wsX0_placeInEquation := goodIn_r _ [11, 12, 13, 14, 15, 16, 17, 18, 19] rfl (by decide +kernel)
set_option maxRecDepth 20000 in
theorem gX0_holds_X0_placeInEquation : GoodIn wsX0_holds (va_wsS RX0 52 yX0_placeInEquation wsX0_placeInEquation) := goodIn_app (goodIn_of _ (by decide +kernel)) ggX0_holds_X0_placeInEquation
set_option maxRecDepth 20000 in
theorem ggX0_holds_X0_power : GoodIn wsX0_holds wsX0_power := goodIn_r _ [22] rfl (by decide +kernel)
set_option maxRecDepth 20000 in
theorem gX0_holds_X0_power : GoodIn wsX0_holds (va_wsS RX0 55 yX0_power wsX0_power) := goodIn_app (goodIn_of _ (by decide +kernel)) ggX0_holds_X0_power
theorem dX0_holds_0 : decode cX0_holds 0 = .ok (.aload_n 0, 1) := by decide +kernel
theorem dX0_holds_1 : decode cX0_holds 1 = .ok (.getfield 45, 3) := by decide +kernel
theorem dX0_holds_4 : decode cX0_holds 4 = .ok (.ifCond .ne 51, 3) := by decide +kernel
theorem dX0_holds_7 : decode cX0_holds 7 = .ok (.aload_n 0, 1) := by decide +kernel
theorem dX0_holds_8 : decode cX0_holds 8 = .ok (.iconst 0, 1) := by decide +kernel
theorem dX0_holds_9 : decode cX0_holds 9 = .ok (.iconst 0, 1) := by decide +kernel
theorem dX0_holds_10 : decode cX0_holds 10 = .ok (.invokevirtual 37, 3) := by decide +kernel
theorem dX0_holds_13 : decode cX0_holds 13 = .ok (.lload 5, 2) := by decide +kernel
theorem dX0_holds_15 : decode cX0_holds 15 = .ok (.lmul, 1) := by decide +kernel
theorem dX0_holds_16 : decode cX0_holds 16 = .ok (.lload_n 1, 1) := by decide +kernel
theorem dX0_holds_17 : decode cX0_holds 17 = .ok (.aload_n 0, 1) := by decide +kernel
theorem dX0_holds_18 : decode cX0_holds 18 = .ok (.iconst 2, 1) := by decide +kernel
theorem dX0_holds_19 : decode cX0_holds 19 = .ok (.iconst 0, 1) := by decide +kernel
theorem dX0_holds_20 : decode cX0_holds 20 = .ok (.invokevirtual 37, 3) := by decide +kernel
theorem dX0_holds_23 : decode cX0_holds 23 = .ok (.lmul, 1) := by decide +kernel
theorem dX0_holds_24 : decode cX0_holds 24 = .ok (.lcmp, 1) := by decide +kernel
theorem dX0_holds_25 : decode cX0_holds 25 = .ok (.ifCond .ne 28, 3) := by decide +kernel
theorem dX0_holds_28 : decode cX0_holds 28 = .ok (.aload_n 0, 1) := by decide +kernel
theorem dX0_holds_29 : decode cX0_holds 29 = .ok (.iconst 1, 1) := by decide +kernel
theorem dX0_holds_30 : decode cX0_holds 30 = .ok (.iconst 0, 1) := by decide +kernel
theorem dX0_holds_31 : decode cX0_holds 31 = .ok (.invokevirtual 37, 3) := by decide +kernel
theorem dX0_holds_34 : decode cX0_holds 34 = .ok (.lload 5, 2) := by decide +kernel
theorem dX0_holds_36 : decode cX0_holds 36 = .ok (.lmul, 1) := by decide +kernel
theorem dX0_holds_37 : decode cX0_holds 37 = .ok (.lload_n 3, 1) := by decide +kernel
theorem dX0_holds_38 : decode cX0_holds 38 = .ok (.aload_n 0, 1) := by decide +kernel
theorem dX0_holds_39 : decode cX0_holds 39 = .ok (.iconst 2, 1) := by decide +kernel
theorem dX0_holds_40 : decode cX0_holds 40 = .ok (.iconst 0, 1) := by decide +kernel
theorem dX0_holds_41 : decode cX0_holds 41 = .ok (.invokevirtual 37, 3) := by decide +kernel
theorem dX0_holds_44 : decode cX0_holds 44 = .ok (.lmul, 1) := by decide +kernel
theorem dX0_holds_45 : decode cX0_holds 45 = .ok (.lcmp, 1) := by decide +kernel
theorem dX0_holds_46 : decode cX0_holds 46 = .ok (.ifCond .ne 7, 3) := by decide +kernel
theorem dX0_holds_49 : decode cX0_holds 49 = .ok (.iconst 1, 1) := by decide +kernel
theorem dX0_holds_50 : decode cX0_holds 50 = .ok (.goto 4, 3) := by decide +kernel
theorem dX0_holds_53 : decode cX0_holds 53 = .ok (.iconst 0, 1) := by decide +kernel
theorem dX0_holds_54 : decode cX0_holds 54 = .ok (.ireturn, 1) := by decide +kernel
theorem dX0_holds_55 : decode cX0_holds 55 = .ok (.lconst 0, 1) := by decide +kernel
theorem dX0_holds_56 : decode cX0_holds 56 = .ok (.lstore 7, 2) := by decide +kernel
theorem dX0_holds_58 : decode cX0_holds 58 = .ok (.iconst 0, 1) := by decide +kernel
theorem dX0_holds_59 : decode cX0_holds 59 = .ok (.istore 9, 2) := by decide +kernel
theorem dX0_holds_61 : decode cX0_holds 61 = .ok (.iload 9, 2) := by decide +kernel
theorem dX0_holds_63 : decode cX0_holds 63 = .ok (.iconst 3, 1) := by decide +kernel
theorem dX0_holds_64 : decode cX0_holds 64 = .ok (.if_icmp .gt 71, 3) := by decide +kernel
theorem dX0_holds_67 : decode cX0_holds 67 = .ok (.iconst 0, 1) := by decide +kernel
theorem dX0_holds_68 : decode cX0_holds 68 = .ok (.istore 10, 2) := by decide +kernel
theorem dX0_holds_70 : decode cX0_holds 70 = .ok (.iload 9, 2) := by decide +kernel
theorem dX0_holds_72 : decode cX0_holds 72 = .ok (.iload 10, 2) := by decide +kernel
theorem dX0_holds_74 : decode cX0_holds 74 = .ok (.iadd, 1) := by decide +kernel
theorem dX0_holds_75 : decode cX0_holds 75 = .ok (.iconst 3, 1) := by decide +kernel
theorem dX0_holds_76 : decode cX0_holds 76 = .ok (.if_icmp .gt 53, 3) := by decide +kernel
theorem dX0_holds_79 : decode cX0_holds 79 = .ok (.lload 7, 2) := by decide +kernel
theorem dX0_holds_81 : decode cX0_holds 81 = .ok (.aload_n 0, 1) := by decide +kernel
theorem dX0_holds_82 : decode cX0_holds 82 = .ok (.getfield 15, 3) := by decide +kernel
theorem dX0_holds_85 : decode cX0_holds 85 = .ok (.iload 9, 2) := by decide +kernel
theorem dX0_holds_87 : decode cX0_holds 87 = .ok (.iload 10, 2) := by decide +kernel
theorem dX0_holds_89 : decode cX0_holds 89 = .ok (.invokestatic 52, 3) := by decide +kernel
theorem dX0_holds_92 : decode cX0_holds 92 = .ok (.laload, 1) := by decide +kernel
theorem dX0_holds_93 : decode cX0_holds 93 = .ok (.lload_n 1, 1) := by decide +kernel
theorem dX0_holds_94 : decode cX0_holds 94 = .ok (.iload 9, 2) := by decide +kernel
theorem dX0_holds_96 : decode cX0_holds 96 = .ok (.invokestatic 55, 3) := by decide +kernel
theorem dX0_holds_99 : decode cX0_holds 99 = .ok (.lmul, 1) := by decide +kernel
theorem dX0_holds_100 : decode cX0_holds 100 = .ok (.lload_n 3, 1) := by decide +kernel
theorem dX0_holds_101 : decode cX0_holds 101 = .ok (.iload 10, 2) := by decide +kernel
theorem dX0_holds_103 : decode cX0_holds 103 = .ok (.invokestatic 55, 3) := by decide +kernel
theorem dX0_holds_106 : decode cX0_holds 106 = .ok (.lmul, 1) := by decide +kernel
theorem dX0_holds_107 : decode cX0_holds 107 = .ok (.lload 5, 2) := by decide +kernel
theorem dX0_holds_109 : decode cX0_holds 109 = .ok (.iconst 3, 1) := by decide +kernel
theorem dX0_holds_110 : decode cX0_holds 110 = .ok (.iload 9, 2) := by decide +kernel
theorem dX0_holds_112 : decode cX0_holds 112 = .ok (.isub, 1) := by decide +kernel
theorem dX0_holds_113 : decode cX0_holds 113 = .ok (.iload 10, 2) := by decide +kernel
theorem dX0_holds_115 : decode cX0_holds 115 = .ok (.isub, 1) := by decide +kernel
theorem dX0_holds_116 : decode cX0_holds 116 = .ok (.invokestatic 55, 3) := by decide +kernel
theorem dX0_holds_119 : decode cX0_holds 119 = .ok (.lmul, 1) := by decide +kernel
theorem dX0_holds_120 : decode cX0_holds 120 = .ok (.ladd, 1) := by decide +kernel
theorem dX0_holds_121 : decode cX0_holds 121 = .ok (.lstore 7, 2) := by decide +kernel
theorem dX0_holds_123 : decode cX0_holds 123 = .ok (.iinc 10 1, 3) := by decide +kernel
theorem dX0_holds_126 : decode cX0_holds 126 = .ok (.goto (-56), 3) := by decide +kernel
theorem dX0_holds_129 : decode cX0_holds 129 = .ok (.iinc 9 1, 3) := by decide +kernel
theorem dX0_holds_132 : decode cX0_holds 132 = .ok (.goto (-71), 3) := by decide +kernel
theorem dX0_holds_135 : decode cX0_holds 135 = .ok (.lload 7, 2) := by decide +kernel
theorem dX0_holds_137 : decode cX0_holds 137 = .ok (.lconst 0, 1) := by decide +kernel
theorem dX0_holds_138 : decode cX0_holds 138 = .ok (.lcmp, 1) := by decide +kernel
theorem dX0_holds_139 : decode cX0_holds 139 = .ok (.ifCond .ne 7, 3) := by decide +kernel
theorem dX0_holds_142 : decode cX0_holds 142 = .ok (.iconst 1, 1) := by decide +kernel
theorem dX0_holds_143 : decode cX0_holds 143 = .ok (.goto 4, 3) := by decide +kernel
theorem dX0_holds_146 : decode cX0_holds 146 = .ok (.iconst 0, 1) := by decide +kernel
theorem dX0_holds_147 : decode cX0_holds 147 = .ok (.ireturn, 1) := by decide +kernel
theorem dX0_power_0 : decode cX0_power 0 = .ok (.lconst 1, 1) := by decide +kernel
theorem dX0_power_1 : decode cX0_power 1 = .ok (.lstore_n 3, 1) := by decide +kernel
theorem dX0_power_2 : decode cX0_power 2 = .ok (.iconst 0, 1) := by decide +kernel
theorem dX0_power_3 : decode cX0_power 3 = .ok (.istore 5, 2) := by decide +kernel
theorem dX0_power_5 : decode cX0_power 5 = .ok (.iload 5, 2) := by decide +kernel
theorem dX0_power_7 : decode cX0_power 7 = .ok (.iload_n 2, 1) := by decide +kernel
theorem dX0_power_8 : decode cX0_power 8 = .ok (.if_icmp .ge 13, 3) := by decide +kernel
theorem dX0_power_11 : decode cX0_power 11 = .ok (.lload_n 3, 1) := by decide +kernel
theorem dX0_power_12 : decode cX0_power 12 = .ok (.lload_n 0, 1) := by decide +kernel
theorem dX0_power_13 : decode cX0_power 13 = .ok (.lmul, 1) := by decide +kernel
theorem dX0_power_14 : decode cX0_power 14 = .ok (.lstore_n 3, 1) := by decide +kernel
theorem dX0_power_15 : decode cX0_power 15 = .ok (.iinc 5 1, 3) := by decide +kernel
theorem dX0_power_18 : decode cX0_power 18 = .ok (.goto (-13), 3) := by decide +kernel
theorem dX0_power_21 : decode cX0_power 21 = .ok (.lload_n 3, 1) := by decide +kernel
theorem dX0_power_22 : decode cX0_power 22 = .ok (.lreturn, 1) := by decide +kernel
theorem dX1_init_0 : decode cX1_init 0 = .ok (.aload_n 0, 1) := by decide +kernel
theorem dX1_init_1 : decode cX1_init 1 = .ok (.invokespecial 3, 3) := by decide +kernel
theorem dX1_init_4 : decode cX1_init 4 = .ok (.aload_n 0, 1) := by decide +kernel
theorem dX1_init_5 : decode cX1_init 5 = .ok (.iconst 4, 1) := by decide +kernel
theorem dX1_init_6 : decode cX1_init 6 = .ok (.newarray .long, 2) := by decide +kernel
theorem dX1_init_8 : decode cX1_init 8 = .ok (.putfield 9, 3) := by decide +kernel
theorem dX1_init_11 : decode cX1_init 11 = .ok (.aload_n 0, 1) := by decide +kernel
theorem dX1_init_12 : decode cX1_init 12 = .ok (.iconst 4, 1) := by decide +kernel
theorem dX1_init_13 : decode cX1_init 13 = .ok (.newarray .long, 2) := by decide +kernel
theorem dX1_init_15 : decode cX1_init 15 = .ok (.putfield 15, 3) := by decide +kernel
theorem dX1_init_18 : decode cX1_init 18 = .ok (.aload_n 0, 1) := by decide +kernel
theorem dX1_init_19 : decode cX1_init 19 = .ok (.iconst 4, 1) := by decide +kernel
theorem dX1_init_20 : decode cX1_init 20 = .ok (.newarray .long, 2) := by decide +kernel
theorem dX1_init_22 : decode cX1_init 22 = .ok (.putfield 18, 3) := by decide +kernel
theorem dX1_init_25 : decode cX1_init 25 = .ok (.return_, 1) := by decide +kernel
set_option maxRecDepth 20000 in
theorem ggX1_make_X1_topOfW : GoodIn wsX1_make wsX1_topOfW := goodIn_r _ [10, 11, 12, 13, 14] rfl (by decide +kernel)
set_option maxRecDepth 20000 in
theorem gX1_make_X1_topOfW : GoodIn wsX1_make (va_wsS RX1 21 yX1_topOfW wsX1_topOfW) := goodIn_app (goodIn_of _ (by decide +kernel)) ggX1_make_X1_topOfW
set_option maxRecDepth 20000 in
theorem ggX1_make_J7_fill_d0a16 : GoodIn wsX1_make wsJ7_fill_d0a16 := goodIn_r _ [18] rfl (by decide +kernel)
set_option maxRecDepth 20000 in
theorem gX1_make_J7_fill_d0a16 : GoodIn wsX1_make (va_wsS RX1 25 yJ7_fill_d0a16 wsJ7_fill_d0a16) := goodIn_app (goodIn_of _ (by decide +kernel)) ggX1_make_J7_fill_d0a16
set_option maxRecDepth 20000 in
theorem ggX1_make_X6_takeOffDivisor : GoodIn wsX1_make wsX6_takeOffDivisor := goodIn_r _ [21, 22, 23, 13, 24, 25, 26, 27, 28] rfl (by decide +kernel)
set_option maxRecDepth 20000 in
theorem gX1_make_X6_takeOffDivisor : GoodIn wsX1_make (va_wsS RX1 37 yX6_takeOffDivisor wsX6_takeOffDivisor) := goodIn_app (goodIn_of _ (by decide +kernel)) ggX1_make_X6_takeOffDivisor
set_option maxRecDepth 20000 in
theorem ggX1_make_X1_findDivisor : GoodIn wsX1_make wsX1_findDivisor := goodIn_r _ [32, 1, 2, 33, 11, 12, 13, 14, 34, 35, 36, 25, 26, 27, 28, 37, 38, 39, 15, 16, 17, 18, 40, 41, 42, 9, 43, 19, 20, 21, 22, 23, 24, 56, 57, 58] rfl (by decide +kernel)
set_option maxRecDepth 20000 in
theorem gX1_make_X1_findDivisor : GoodIn wsX1_make (wsV RX1 43 RX1 yX1_findDivisor wsX1_findDivisor) := goodIn_app (goodIn_of _ (by decide +kernel)) ggX1_make_X1_findDivisor
set_option maxRecDepth 20000 in
theorem ggX1_make_X1_divide : GoodIn wsX1_make wsX1_divide := goodIn_r _ [47, 1, 48, 3, 4, 5, 6, 11, 12, 13, 14, 15, 16, 17, 18, 56, 57, 58] rfl (by decide +kernel)
set_option maxRecDepth 20000 in
theorem gX1_make_X1_divide : GoodIn wsX1_make (wsV RX1 46 RX1 yX1_divide wsX1_divide) := goodIn_app (goodIn_of _ (by decide +kernel)) ggX1_make_X1_divide
set_option maxRecDepth 20000 in
theorem ggX1_make_X1_lowerNumbers : GoodIn wsX1_make wsX1_lowerNumbers := goodIn_r _ [51, 52, 7, 8, 9, 10, 11, 12, 13, 14, 19, 20, 21, 22, 23, 24, 25, 26, 27, 28, 53, 54, 55, 34, 35, 36, 37, 38, 39] rfl (by decide +kernel)
set_option maxRecDepth 20000 in
theorem gX1_make_X1_lowerNumbers : GoodIn wsX1_make (va_wsS RX1 50 yX1_lowerNumbers wsX1_lowerNumbers) := goodIn_app (goodIn_of _ (by decide +kernel)) ggX1_make_X1_lowerNumbers
theorem dX1_make_0 : decode cX1_make 0 = .ok (.aload_n 1, 1) := by decide +kernel
theorem dX1_make_1 : decode cX1_make 1 = .ok (.invokestatic 21, 3) := by decide +kernel
theorem dX1_make_4 : decode cX1_make 4 = .ok (.ifCond .ge 5, 3) := by decide +kernel
theorem dX1_make_7 : decode cX1_make 7 = .ok (.iconst 0, 1) := by decide +kernel
theorem dX1_make_8 : decode cX1_make 8 = .ok (.ireturn, 1) := by decide +kernel
theorem dX1_make_9 : decode cX1_make 9 = .ok (.aload_n 0, 1) := by decide +kernel
theorem dX1_make_10 : decode cX1_make 10 = .ok (.getfield 9, 3) := by decide +kernel
theorem dX1_make_13 : decode cX1_make 13 = .ok (.lconst 0, 1) := by decide +kernel
theorem dX1_make_14 : decode cX1_make 14 = .ok (.invokestatic 25, 3) := by decide +kernel
theorem dX1_make_17 : decode cX1_make 17 = .ok (.iconst 0, 1) := by decide +kernel
theorem dX1_make_18 : decode cX1_make 18 = .ok (.istore_n 2, 1) := by decide +kernel
theorem dX1_make_19 : decode cX1_make 19 = .ok (.iload_n 2, 1) := by decide +kernel
theorem dX1_make_20 : decode cX1_make 20 = .ok (.bipush 12, 2) := by decide +kernel
theorem dX1_make_22 : decode cX1_make 22 = .ok (.if_icmp .ge 31, 3) := by decide +kernel
theorem dX1_make_25 : decode cX1_make 25 = .ok (.aload_n 1, 1) := by decide +kernel
theorem dX1_make_26 : decode cX1_make 26 = .ok (.iload_n 2, 1) := by decide +kernel
theorem dX1_make_27 : decode cX1_make 27 = .ok (.aload_n 0, 1) := by decide +kernel
theorem dX1_make_28 : decode cX1_make 28 = .ok (.getfield 15, 3) := by decide +kernel
theorem dX1_make_31 : decode cX1_make 31 = .ok (.iconst 0, 1) := by decide +kernel
theorem dX1_make_32 : decode cX1_make 32 = .ok (.iconst 4, 1) := by decide +kernel
theorem dX1_make_33 : decode cX1_make 33 = .ok (.invokestatic 31, 3) := by decide +kernel
theorem dX1_make_36 : decode cX1_make 36 = .ok (.aload_n 0, 1) := by decide +kernel
theorem dX1_make_37 : decode cX1_make 37 = .ok (.getfield 15, 3) := by decide +kernel
theorem dX1_make_40 : decode cX1_make 40 = .ok (.invokestatic 37, 3) := by decide +kernel
theorem dX1_make_43 : decode cX1_make 43 = .ok (.aload_n 0, 1) := by decide +kernel
theorem dX1_make_44 : decode cX1_make 44 = .ok (.invokevirtual 43, 3) := by decide +kernel
theorem dX1_make_47 : decode cX1_make 47 = .ok (.iinc 2 4, 3) := by decide +kernel
theorem dX1_make_50 : decode cX1_make 50 = .ok (.goto (-31), 3) := by decide +kernel
theorem dX1_make_53 : decode cX1_make 53 = .ok (.iconst 0, 1) := by decide +kernel
theorem dX1_make_54 : decode cX1_make 54 = .ok (.istore_n 2, 1) := by decide +kernel
theorem dX1_make_55 : decode cX1_make 55 = .ok (.iload_n 2, 1) := by decide +kernel
theorem dX1_make_56 : decode cX1_make 56 = .ok (.bipush 12, 2) := by decide +kernel
theorem dX1_make_58 : decode cX1_make 58 = .ok (.if_icmp .ge 15, 3) := by decide +kernel
theorem dX1_make_61 : decode cX1_make 61 = .ok (.aload_n 0, 1) := by decide +kernel
theorem dX1_make_62 : decode cX1_make 62 = .ok (.aload_n 1, 1) := by decide +kernel
theorem dX1_make_63 : decode cX1_make 63 = .ok (.iload_n 2, 1) := by decide +kernel
theorem dX1_make_64 : decode cX1_make 64 = .ok (.invokevirtual 46, 3) := by decide +kernel
theorem dX1_make_67 : decode cX1_make 67 = .ok (.iinc 2 4, 3) := by decide +kernel
theorem dX1_make_70 : decode cX1_make 70 = .ok (.goto (-15), 3) := by decide +kernel
theorem dX1_make_73 : decode cX1_make 73 = .ok (.aload_n 1, 1) := by decide +kernel
theorem dX1_make_74 : decode cX1_make 74 = .ok (.invokestatic 50, 3) := by decide +kernel
theorem dX1_make_77 : decode cX1_make 77 = .ok (.ireturn, 1) := by decide +kernel
set_option maxRecDepth 20000 in
theorem ggX1_lowerNumbers_X1_topOfW : GoodIn wsX1_lowerNumbers wsX1_topOfW := goodIn_r _ [5, 6, 7, 8, 9] rfl (by decide +kernel)
set_option maxRecDepth 20000 in
theorem gX1_lowerNumbers_X1_topOfW : GoodIn wsX1_lowerNumbers (va_wsS RX1 21 yX1_topOfW wsX1_topOfW) := goodIn_app (goodIn_of _ (by decide +kernel)) ggX1_lowerNumbers_X1_topOfW
set_option maxRecDepth 20000 in
theorem ggX1_lowerNumbers_X6_takeOffDivisor : GoodIn wsX1_lowerNumbers wsX6_takeOffDivisor := goodIn_r _ [12, 13, 14, 8, 15, 16, 17, 18, 19] rfl (by decide +kernel)
set_option maxRecDepth 20000 in
theorem gX1_lowerNumbers_X6_takeOffDivisor : GoodIn wsX1_lowerNumbers (va_wsS RX1 37 yX6_takeOffDivisor wsX6_takeOffDivisor) := goodIn_app (goodIn_of _ (by decide +kernel)) ggX1_lowerNumbers_X6_takeOffDivisor
set_option maxRecDepth 20000 in
theorem ggX1_lowerNumbers_X6_turn : GoodIn wsX1_lowerNumbers wsX6_turn := goodIn_r _ [22] rfl (by decide +kernel)
set_option maxRecDepth 20000 in
theorem gX1_lowerNumbers_X6_turn : GoodIn wsX1_lowerNumbers (va_wsS RX1 54 yX6_turn wsX6_turn) := goodIn_app (goodIn_of _ (by decide +kernel)) ggX1_lowerNumbers_X6_turn
set_option maxRecDepth 20000 in
theorem ggX1_lowerNumbers_X6_widest : GoodIn wsX1_lowerNumbers wsX6_widest := goodIn_r _ [25, 16, 17, 18, 19, 26, 27, 28] rfl (by decide +kernel)
set_option maxRecDepth 20000 in
theorem gX1_lowerNumbers_X6_widest : GoodIn wsX1_lowerNumbers (va_wsS RX1 57 yX6_widest wsX6_widest) := goodIn_app (goodIn_of _ (by decide +kernel)) ggX1_lowerNumbers_X6_widest
theorem dX1_lowerNumbers_0 : decode cX1_lowerNumbers 0 = .ok (.aload_n 0, 1) := by decide +kernel
theorem dX1_lowerNumbers_1 : decode cX1_lowerNumbers 1 = .ok (.invokestatic 21, 3) := by decide +kernel
theorem dX1_lowerNumbers_4 : decode cX1_lowerNumbers 4 = .ok (.istore_n 1, 1) := by decide +kernel
theorem dX1_lowerNumbers_5 : decode cX1_lowerNumbers 5 = .ok (.iload_n 1, 1) := by decide +kernel
theorem dX1_lowerNumbers_6 : decode cX1_lowerNumbers 6 = .ok (.ifCond .ge 5, 3) := by decide +kernel
theorem dX1_lowerNumbers_9 : decode cX1_lowerNumbers 9 = .ok (.iconst 0, 1) := by decide +kernel
theorem dX1_lowerNumbers_10 : decode cX1_lowerNumbers 10 = .ok (.ireturn, 1) := by decide +kernel
theorem dX1_lowerNumbers_11 : decode cX1_lowerNumbers 11 = .ok (.aload_n 0, 1) := by decide +kernel
theorem dX1_lowerNumbers_12 : decode cX1_lowerNumbers 12 = .ok (.invokestatic 37, 3) := by decide +kernel
theorem dX1_lowerNumbers_15 : decode cX1_lowerNumbers 15 = .ok (.aload_n 0, 1) := by decide +kernel
theorem dX1_lowerNumbers_16 : decode cX1_lowerNumbers 16 = .ok (.iload_n 1, 1) := by decide +kernel
theorem dX1_lowerNumbers_17 : decode cX1_lowerNumbers 17 = .ok (.invokestatic 54, 3) := by decide +kernel
theorem dX1_lowerNumbers_20 : decode cX1_lowerNumbers 20 = .ok (.aload_n 0, 1) := by decide +kernel
theorem dX1_lowerNumbers_21 : decode cX1_lowerNumbers 21 = .ok (.invokestatic 57, 3) := by decide +kernel
theorem dX1_lowerNumbers_24 : decode cX1_lowerNumbers 24 = .ok (.ldc2_w 61, 3) := by decide +kernel
theorem dX1_lowerNumbers_27 : decode cX1_lowerNumbers 27 = .ok (.lcmp, 1) := by decide +kernel
theorem dX1_lowerNumbers_28 : decode cX1_lowerNumbers 28 = .ok (.ifCond .gt 7, 3) := by decide +kernel
theorem dX1_lowerNumbers_31 : decode cX1_lowerNumbers 31 = .ok (.iconst 1, 1) := by decide +kernel
theorem dX1_lowerNumbers_32 : decode cX1_lowerNumbers 32 = .ok (.goto 4, 3) := by decide +kernel
theorem dX1_lowerNumbers_35 : decode cX1_lowerNumbers 35 = .ok (.iconst 0, 1) := by decide +kernel
theorem dX1_lowerNumbers_36 : decode cX1_lowerNumbers 36 = .ok (.ireturn, 1) := by decide +kernel
set_option maxRecDepth 20000 in
theorem ggX1_topOfW_X6_last : GoodIn wsX1_topOfW wsX6_last := goodIn_r _ [4] rfl (by decide +kernel)
set_option maxRecDepth 20000 in
theorem gX1_topOfW_X6_last : GoodIn wsX1_topOfW (va_wsS RX1 63 yX6_last wsX6_last) := goodIn_app (goodIn_of _ (by decide +kernel)) ggX1_topOfW_X6_last
theorem dX1_topOfW_0 : decode cX1_topOfW 0 = .ok (.aload_n 0, 1) := by decide +kernel
theorem dX1_topOfW_1 : decode cX1_topOfW 1 = .ok (.invokestatic 63, 3) := by decide +kernel
theorem dX1_topOfW_4 : decode cX1_topOfW 4 = .ok (.istore_n 1, 1) := by decide +kernel
theorem dX1_topOfW_5 : decode cX1_topOfW 5 = .ok (.iload_n 1, 1) := by decide +kernel
theorem dX1_topOfW_6 : decode cX1_topOfW 6 = .ok (.bipush 8, 2) := by decide +kernel
theorem dX1_topOfW_8 : decode cX1_topOfW 8 = .ok (.if_icmp .ge 7, 3) := by decide +kernel
theorem dX1_topOfW_11 : decode cX1_topOfW 11 = .ok (.iconst (-1), 1) := by decide +kernel
theorem dX1_topOfW_12 : decode cX1_topOfW 12 = .ok (.goto 4, 3) := by decide +kernel
theorem dX1_topOfW_15 : decode cX1_topOfW 15 = .ok (.iload_n 1, 1) := by decide +kernel
theorem dX1_topOfW_16 : decode cX1_topOfW 16 = .ok (.ireturn, 1) := by decide +kernel
set_option maxRecDepth 20000 in
theorem ggX1_findDivisor_X6_last : GoodIn wsX1_findDivisor wsX6_last := goodIn_r _ [7] rfl (by decide +kernel)
set_option maxRecDepth 20000 in
theorem gX1_findDivisor_X6_last : GoodIn wsX1_findDivisor (va_wsS RX1 63 yX6_last wsX6_last) := goodIn_app (goodIn_of _ (by decide +kernel)) ggX1_findDivisor_X6_last
set_option maxRecDepth 20000 in
theorem ggX1_findDivisor_X6_widest : GoodIn wsX1_findDivisor wsX6_widest := goodIn_r _ [10, 11, 12, 13, 14, 15, 16, 17] rfl (by decide +kernel)
set_option maxRecDepth 20000 in
theorem gX1_findDivisor_X6_widest : GoodIn wsX1_findDivisor (va_wsS RX1 57 yX6_widest wsX6_widest) := goodIn_app (goodIn_of _ (by decide +kernel)) ggX1_findDivisor_X6_widest
set_option maxRecDepth 20000 in
theorem ggX1_findDivisor_J7_fill_d0a16 : GoodIn wsX1_findDivisor wsJ7_fill_d0a16 := goodIn_r _ [21] rfl (by decide +kernel)
set_option maxRecDepth 20000 in
theorem gX1_findDivisor_J7_fill_d0a16 : GoodIn wsX1_findDivisor (va_wsS RX1 25 yJ7_fill_d0a16 wsJ7_fill_d0a16) := goodIn_app (goodIn_of _ (by decide +kernel)) ggX1_findDivisor_J7_fill_d0a16
set_option maxRecDepth 20000 in
theorem ggX1_findDivisor_X1_eliminate : GoodIn wsX1_findDivisor wsX1_eliminate := goodIn_r _ [26, 1, 2, 27, 28, 6, 29, 30, 31, 32, 11, 12, 13, 14, 33, 34, 35] rfl (by decide +kernel)
set_option maxRecDepth 20000 in
theorem gX1_findDivisor_X1_eliminate : GoodIn wsX1_findDivisor (wsV RX1 68 RX1 yX1_eliminate wsX1_eliminate) := goodIn_app (goodIn_of _ (by decide +kernel)) ggX1_findDivisor_X1_eliminate
theorem dX1_findDivisor_0 : decode cX1_findDivisor 0 = .ok (.iconst 0, 1) := by decide +kernel
theorem dX1_findDivisor_1 : decode cX1_findDivisor 1 = .ok (.istore_n 1, 1) := by decide +kernel
theorem dX1_findDivisor_2 : decode cX1_findDivisor 2 = .ok (.iload_n 1, 1) := by decide +kernel
theorem dX1_findDivisor_3 : decode cX1_findDivisor 3 = .ok (.bipush 16, 2) := by decide +kernel
theorem dX1_findDivisor_5 : decode cX1_findDivisor 5 = .ok (.if_icmp .ge 108, 3) := by decide +kernel
theorem dX1_findDivisor_8 : decode cX1_findDivisor 8 = .ok (.aload_n 0, 1) := by decide +kernel
theorem dX1_findDivisor_9 : decode cX1_findDivisor 9 = .ok (.getfield 9, 3) := by decide +kernel
theorem dX1_findDivisor_12 : decode cX1_findDivisor 12 = .ok (.invokestatic 63, 3) := by decide +kernel
theorem dX1_findDivisor_15 : decode cX1_findDivisor 15 = .ok (.aload_n 0, 1) := by decide +kernel
theorem dX1_findDivisor_16 : decode cX1_findDivisor 16 = .ok (.getfield 15, 3) := by decide +kernel
theorem dX1_findDivisor_19 : decode cX1_findDivisor 19 = .ok (.invokestatic 63, 3) := by decide +kernel
theorem dX1_findDivisor_22 : decode cX1_findDivisor 22 = .ok (.if_icmp .ge 21, 3) := by decide +kernel
theorem dX1_findDivisor_25 : decode cX1_findDivisor 25 = .ok (.aload_n 0, 1) := by decide +kernel
theorem dX1_findDivisor_26 : decode cX1_findDivisor 26 = .ok (.getfield 9, 3) := by decide +kernel
theorem dX1_findDivisor_29 : decode cX1_findDivisor 29 = .ok (.astore_n 2, 1) := by decide +kernel
theorem dX1_findDivisor_30 : decode cX1_findDivisor 30 = .ok (.aload_n 0, 1) := by decide +kernel
theorem dX1_findDivisor_31 : decode cX1_findDivisor 31 = .ok (.aload_n 0, 1) := by decide +kernel
theorem dX1_findDivisor_32 : decode cX1_findDivisor 32 = .ok (.getfield 15, 3) := by decide +kernel
theorem dX1_findDivisor_35 : decode cX1_findDivisor 35 = .ok (.putfield 9, 3) := by decide +kernel
theorem dX1_findDivisor_38 : decode cX1_findDivisor 38 = .ok (.aload_n 0, 1) := by decide +kernel
theorem dX1_findDivisor_39 : decode cX1_findDivisor 39 = .ok (.aload_n 2, 1) := by decide +kernel
theorem dX1_findDivisor_40 : decode cX1_findDivisor 40 = .ok (.putfield 15, 3) := by decide +kernel
theorem dX1_findDivisor_43 : decode cX1_findDivisor 43 = .ok (.aload_n 0, 1) := by decide +kernel
theorem dX1_findDivisor_44 : decode cX1_findDivisor 44 = .ok (.getfield 15, 3) := by decide +kernel
theorem dX1_findDivisor_47 : decode cX1_findDivisor 47 = .ok (.invokestatic 63, 3) := by decide +kernel
theorem dX1_findDivisor_50 : decode cX1_findDivisor 50 = .ok (.istore_n 2, 1) := by decide +kernel
theorem dX1_findDivisor_51 : decode cX1_findDivisor 51 = .ok (.iload_n 2, 1) := by decide +kernel
theorem dX1_findDivisor_52 : decode cX1_findDivisor 52 = .ok (.ifCond .ge 4, 3) := by decide +kernel
theorem dX1_findDivisor_55 : decode cX1_findDivisor 55 = .ok (.return_, 1) := by decide +kernel
theorem dX1_findDivisor_56 : decode cX1_findDivisor 56 = .ok (.iload_n 2, 1) := by decide +kernel
theorem dX1_findDivisor_57 : decode cX1_findDivisor 57 = .ok (.ifCond .eq 22, 3) := by decide +kernel
theorem dX1_findDivisor_60 : decode cX1_findDivisor 60 = .ok (.iload_n 2, 1) := by decide +kernel
theorem dX1_findDivisor_61 : decode cX1_findDivisor 61 = .ok (.iconst 1, 1) := by decide +kernel
theorem dX1_findDivisor_62 : decode cX1_findDivisor 62 = .ok (.if_icmp .ne 33, 3) := by decide +kernel
theorem dX1_findDivisor_65 : decode cX1_findDivisor 65 = .ok (.aload_n 0, 1) := by decide +kernel
theorem dX1_findDivisor_66 : decode cX1_findDivisor 66 = .ok (.getfield 15, 3) := by decide +kernel
theorem dX1_findDivisor_69 : decode cX1_findDivisor 69 = .ok (.invokestatic 57, 3) := by decide +kernel
theorem dX1_findDivisor_72 : decode cX1_findDivisor 72 = .ok (.ldc2_w 66, 3) := by decide +kernel
theorem dX1_findDivisor_75 : decode cX1_findDivisor 75 = .ok (.lcmp, 1) := by decide +kernel
theorem dX1_findDivisor_76 : decode cX1_findDivisor 76 = .ok (.ifCond .le 19, 3) := by decide +kernel
theorem dX1_findDivisor_79 : decode cX1_findDivisor 79 = .ok (.aload_n 0, 1) := by decide +kernel
theorem dX1_findDivisor_80 : decode cX1_findDivisor 80 = .ok (.getfield 9, 3) := by decide +kernel
theorem dX1_findDivisor_83 : decode cX1_findDivisor 83 = .ok (.lconst 0, 1) := by decide +kernel
theorem dX1_findDivisor_84 : decode cX1_findDivisor 84 = .ok (.invokestatic 25, 3) := by decide +kernel
theorem dX1_findDivisor_87 : decode cX1_findDivisor 87 = .ok (.aload_n 0, 1) := by decide +kernel
theorem dX1_findDivisor_88 : decode cX1_findDivisor 88 = .ok (.getfield 9, 3) := by decide +kernel
theorem dX1_findDivisor_91 : decode cX1_findDivisor 91 = .ok (.iconst 0, 1) := by decide +kernel
theorem dX1_findDivisor_92 : decode cX1_findDivisor 92 = .ok (.lconst 1, 1) := by decide +kernel
theorem dX1_findDivisor_93 : decode cX1_findDivisor 93 = .ok (.lastore, 1) := by decide +kernel
theorem dX1_findDivisor_94 : decode cX1_findDivisor 94 = .ok (.return_, 1) := by decide +kernel
theorem dX1_findDivisor_95 : decode cX1_findDivisor 95 = .ok (.aload_n 0, 1) := by decide +kernel
theorem dX1_findDivisor_96 : decode cX1_findDivisor 96 = .ok (.aload_n 0, 1) := by decide +kernel
theorem dX1_findDivisor_97 : decode cX1_findDivisor 97 = .ok (.getfield 9, 3) := by decide +kernel
theorem dX1_findDivisor_100 : decode cX1_findDivisor 100 = .ok (.invokestatic 63, 3) := by decide +kernel
theorem dX1_findDivisor_103 : decode cX1_findDivisor 103 = .ok (.iload_n 2, 1) := by decide +kernel
theorem dX1_findDivisor_104 : decode cX1_findDivisor 104 = .ok (.invokevirtual 68, 3) := by decide +kernel
theorem dX1_findDivisor_107 : decode cX1_findDivisor 107 = .ok (.iinc 1 1, 3) := by decide +kernel
theorem dX1_findDivisor_110 : decode cX1_findDivisor 110 = .ok (.goto (-108), 3) := by decide +kernel
theorem dX1_findDivisor_113 : decode cX1_findDivisor 113 = .ok (.return_, 1) := by decide +kernel
set_option maxRecDepth 20000 in
theorem ggX1_eliminate_X6_takeOffDivisor : GoodIn wsX1_eliminate wsX6_takeOffDivisor := goodIn_r _ [6, 7, 8, 5, 9, 10, 11, 12, 13] rfl (by decide +kernel)
set_option maxRecDepth 20000 in
theorem gX1_eliminate_X6_takeOffDivisor : GoodIn wsX1_eliminate (va_wsS RX1 37 yX6_takeOffDivisor wsX6_takeOffDivisor) := goodIn_app (goodIn_of _ (by decide +kernel)) ggX1_eliminate_X6_takeOffDivisor
theorem dX1_eliminate_0 : decode cX1_eliminate 0 = .ok (.iload_n 2, 1) := by decide +kernel
theorem dX1_eliminate_1 : decode cX1_eliminate 1 = .ok (.ifCond .lt 13, 3) := by decide +kernel
theorem dX1_eliminate_4 : decode cX1_eliminate 4 = .ok (.iload_n 1, 1) := by decide +kernel
theorem dX1_eliminate_5 : decode cX1_eliminate 5 = .ok (.iload_n 2, 1) := by decide +kernel
theorem dX1_eliminate_6 : decode cX1_eliminate 6 = .ok (.if_icmp .lt 8, 3) := by decide +kernel
theorem dX1_eliminate_9 : decode cX1_eliminate 9 = .ok (.iload_n 1, 1) := by decide +kernel
theorem dX1_eliminate_10 : decode cX1_eliminate 10 = .ok (.iconst 4, 1) := by decide +kernel
theorem dX1_eliminate_11 : decode cX1_eliminate 11 = .ok (.if_icmp .lt 4, 3) := by decide +kernel
theorem dX1_eliminate_14 : decode cX1_eliminate 14 = .ok (.return_, 1) := by decide +kernel
theorem dX1_eliminate_15 : decode cX1_eliminate 15 = .ok (.iload_n 1, 1) := by decide +kernel
theorem dX1_eliminate_16 : decode cX1_eliminate 16 = .ok (.iload_n 2, 1) := by decide +kernel
theorem dX1_eliminate_17 : decode cX1_eliminate 17 = .ok (.isub, 1) := by decide +kernel
theorem dX1_eliminate_18 : decode cX1_eliminate 18 = .ok (.istore_n 3, 1) := by decide +kernel
theorem dX1_eliminate_19 : decode cX1_eliminate 19 = .ok (.aload_n 0, 1) := by decide +kernel
theorem dX1_eliminate_20 : decode cX1_eliminate 20 = .ok (.getfield 9, 3) := by decide +kernel
theorem dX1_eliminate_23 : decode cX1_eliminate 23 = .ok (.iload_n 1, 1) := by decide +kernel
theorem dX1_eliminate_24 : decode cX1_eliminate 24 = .ok (.laload, 1) := by decide +kernel
theorem dX1_eliminate_25 : decode cX1_eliminate 25 = .ok (.lstore 4, 2) := by decide +kernel
theorem dX1_eliminate_27 : decode cX1_eliminate 27 = .ok (.aload_n 0, 1) := by decide +kernel
theorem dX1_eliminate_28 : decode cX1_eliminate 28 = .ok (.getfield 15, 3) := by decide +kernel
theorem dX1_eliminate_31 : decode cX1_eliminate 31 = .ok (.iload_n 2, 1) := by decide +kernel
theorem dX1_eliminate_32 : decode cX1_eliminate 32 = .ok (.laload, 1) := by decide +kernel
theorem dX1_eliminate_33 : decode cX1_eliminate 33 = .ok (.lstore 6, 2) := by decide +kernel
theorem dX1_eliminate_35 : decode cX1_eliminate 35 = .ok (.iconst 0, 1) := by decide +kernel
theorem dX1_eliminate_36 : decode cX1_eliminate 36 = .ok (.istore 8, 2) := by decide +kernel
theorem dX1_eliminate_38 : decode cX1_eliminate 38 = .ok (.iload 8, 2) := by decide +kernel
theorem dX1_eliminate_40 : decode cX1_eliminate 40 = .ok (.iconst 4, 1) := by decide +kernel
theorem dX1_eliminate_41 : decode cX1_eliminate 41 = .ok (.if_icmp .ge 49, 3) := by decide +kernel
theorem dX1_eliminate_44 : decode cX1_eliminate 44 = .ok (.aload_n 0, 1) := by decide +kernel
theorem dX1_eliminate_45 : decode cX1_eliminate 45 = .ok (.getfield 9, 3) := by decide +kernel
theorem dX1_eliminate_48 : decode cX1_eliminate 48 = .ok (.iload 8, 2) := by decide +kernel
theorem dX1_eliminate_50 : decode cX1_eliminate 50 = .ok (.aload_n 0, 1) := by decide +kernel
theorem dX1_eliminate_51 : decode cX1_eliminate 51 = .ok (.getfield 9, 3) := by decide +kernel
theorem dX1_eliminate_54 : decode cX1_eliminate 54 = .ok (.iload 8, 2) := by decide +kernel
theorem dX1_eliminate_56 : decode cX1_eliminate 56 = .ok (.laload, 1) := by decide +kernel
theorem dX1_eliminate_57 : decode cX1_eliminate 57 = .ok (.lload 6, 2) := by decide +kernel
theorem dX1_eliminate_59 : decode cX1_eliminate 59 = .ok (.lmul, 1) := by decide +kernel
theorem dX1_eliminate_60 : decode cX1_eliminate 60 = .ok (.iload 8, 2) := by decide +kernel
theorem dX1_eliminate_62 : decode cX1_eliminate 62 = .ok (.iload_n 3, 1) := by decide +kernel
theorem dX1_eliminate_63 : decode cX1_eliminate 63 = .ok (.if_icmp .ge 7, 3) := by decide +kernel
theorem dX1_eliminate_66 : decode cX1_eliminate 66 = .ok (.lconst 0, 1) := by decide +kernel
theorem dX1_eliminate_67 : decode cX1_eliminate 67 = .ok (.goto 15, 3) := by decide +kernel
theorem dX1_eliminate_70 : decode cX1_eliminate 70 = .ok (.aload_n 0, 1) := by decide +kernel
theorem dX1_eliminate_71 : decode cX1_eliminate 71 = .ok (.getfield 15, 3) := by decide +kernel
theorem dX1_eliminate_74 : decode cX1_eliminate 74 = .ok (.iload 8, 2) := by decide +kernel
theorem dX1_eliminate_76 : decode cX1_eliminate 76 = .ok (.iload_n 3, 1) := by decide +kernel
theorem dX1_eliminate_77 : decode cX1_eliminate 77 = .ok (.isub, 1) := by decide +kernel
theorem dX1_eliminate_78 : decode cX1_eliminate 78 = .ok (.laload, 1) := by decide +kernel
theorem dX1_eliminate_79 : decode cX1_eliminate 79 = .ok (.lload 4, 2) := by decide +kernel
theorem dX1_eliminate_81 : decode cX1_eliminate 81 = .ok (.lmul, 1) := by decide +kernel
theorem dX1_eliminate_82 : decode cX1_eliminate 82 = .ok (.lsub, 1) := by decide +kernel
theorem dX1_eliminate_83 : decode cX1_eliminate 83 = .ok (.lastore, 1) := by decide +kernel
theorem dX1_eliminate_84 : decode cX1_eliminate 84 = .ok (.iinc 8 1, 3) := by decide +kernel
theorem dX1_eliminate_87 : decode cX1_eliminate 87 = .ok (.goto (-49), 3) := by decide +kernel
theorem dX1_eliminate_90 : decode cX1_eliminate 90 = .ok (.aload_n 0, 1) := by decide +kernel
theorem dX1_eliminate_91 : decode cX1_eliminate 91 = .ok (.getfield 9, 3) := by decide +kernel
theorem dX1_eliminate_94 : decode cX1_eliminate 94 = .ok (.invokestatic 37, 3) := by decide +kernel
theorem dX1_eliminate_97 : decode cX1_eliminate 97 = .ok (.return_, 1) := by decide +kernel
set_option maxRecDepth 20000 in
theorem ggX1_divide_X6_last : GoodIn wsX1_divide wsX6_last := goodIn_r _ [10] rfl (by decide +kernel)
set_option maxRecDepth 20000 in
theorem gX1_divide_X6_last : GoodIn wsX1_divide (va_wsS RX1 63 yX6_last wsX6_last) := goodIn_app (goodIn_of _ (by decide +kernel)) ggX1_divide_X6_last
set_option maxRecDepth 20000 in
theorem ggX1_divide_J7_fill_d0a16 : GoodIn wsX1_divide wsJ7_fill_d0a16 := goodIn_r _ [14] rfl (by decide +kernel)
set_option maxRecDepth 20000 in
theorem gX1_divide_J7_fill_d0a16 : GoodIn wsX1_divide (va_wsS RX1 25 yJ7_fill_d0a16 wsJ7_fill_d0a16) := goodIn_app (goodIn_of _ (by decide +kernel)) ggX1_divide_J7_fill_d0a16
theorem dX1_divide_0 : decode cX1_divide 0 = .ok (.aload_n 0, 1) := by decide +kernel
theorem dX1_divide_1 : decode cX1_divide 1 = .ok (.getfield 9, 3) := by decide +kernel
theorem dX1_divide_4 : decode cX1_divide 4 = .ok (.invokestatic 63, 3) := by decide +kernel
theorem dX1_divide_7 : decode cX1_divide 7 = .ok (.istore_n 3, 1) := by decide +kernel
theorem dX1_divide_8 : decode cX1_divide 8 = .ok (.iload_n 3, 1) := by decide +kernel
theorem dX1_divide_9 : decode cX1_divide 9 = .ok (.ifCond .lt 14, 3) := by decide +kernel
theorem dX1_divide_12 : decode cX1_divide 12 = .ok (.aload_n 0, 1) := by decide +kernel
theorem dX1_divide_13 : decode cX1_divide 13 = .ok (.getfield 9, 3) := by decide +kernel
theorem dX1_divide_16 : decode cX1_divide 16 = .ok (.iload_n 3, 1) := by decide +kernel
theorem dX1_divide_17 : decode cX1_divide 17 = .ok (.laload, 1) := by decide +kernel
theorem dX1_divide_18 : decode cX1_divide 18 = .ok (.lconst 0, 1) := by decide +kernel
theorem dX1_divide_19 : decode cX1_divide 19 = .ok (.lcmp, 1) := by decide +kernel
theorem dX1_divide_20 : decode cX1_divide 20 = .ok (.ifCond .ne 4, 3) := by decide +kernel
theorem dX1_divide_23 : decode cX1_divide 23 = .ok (.return_, 1) := by decide +kernel
theorem dX1_divide_24 : decode cX1_divide 24 = .ok (.aload_n 0, 1) := by decide +kernel
theorem dX1_divide_25 : decode cX1_divide 25 = .ok (.getfield 18, 3) := by decide +kernel
theorem dX1_divide_28 : decode cX1_divide 28 = .ok (.lconst 0, 1) := by decide +kernel
theorem dX1_divide_29 : decode cX1_divide 29 = .ok (.invokestatic 25, 3) := by decide +kernel
theorem dX1_divide_32 : decode cX1_divide 32 = .ok (.iconst 3, 1) := by decide +kernel
theorem dX1_divide_33 : decode cX1_divide 33 = .ok (.iload_n 3, 1) := by decide +kernel
theorem dX1_divide_34 : decode cX1_divide 34 = .ok (.isub, 1) := by decide +kernel
theorem dX1_divide_35 : decode cX1_divide 35 = .ok (.istore 4, 2) := by decide +kernel
theorem dX1_divide_37 : decode cX1_divide 37 = .ok (.iload 4, 2) := by decide +kernel
theorem dX1_divide_39 : decode cX1_divide 39 = .ok (.ifCond .lt 73, 3) := by decide +kernel
theorem dX1_divide_42 : decode cX1_divide 42 = .ok (.aload_n 0, 1) := by decide +kernel
theorem dX1_divide_43 : decode cX1_divide 43 = .ok (.getfield 18, 3) := by decide +kernel
theorem dX1_divide_46 : decode cX1_divide 46 = .ok (.iload 4, 2) := by decide +kernel
theorem dX1_divide_48 : decode cX1_divide 48 = .ok (.aload_n 1, 1) := by decide +kernel
theorem dX1_divide_49 : decode cX1_divide 49 = .ok (.iload_n 2, 1) := by decide +kernel
theorem dX1_divide_50 : decode cX1_divide 50 = .ok (.iload_n 3, 1) := by decide +kernel
theorem dX1_divide_51 : decode cX1_divide 51 = .ok (.iadd, 1) := by decide +kernel
theorem dX1_divide_52 : decode cX1_divide 52 = .ok (.iload 4, 2) := by decide +kernel
theorem dX1_divide_54 : decode cX1_divide 54 = .ok (.iadd, 1) := by decide +kernel
theorem dX1_divide_55 : decode cX1_divide 55 = .ok (.laload, 1) := by decide +kernel
theorem dX1_divide_56 : decode cX1_divide 56 = .ok (.aload_n 0, 1) := by decide +kernel
theorem dX1_divide_57 : decode cX1_divide 57 = .ok (.getfield 9, 3) := by decide +kernel
theorem dX1_divide_60 : decode cX1_divide 60 = .ok (.iload_n 3, 1) := by decide +kernel
theorem dX1_divide_61 : decode cX1_divide 61 = .ok (.laload, 1) := by decide +kernel
theorem dX1_divide_62 : decode cX1_divide 62 = .ok (.ldiv, 1) := by decide +kernel
theorem dX1_divide_63 : decode cX1_divide 63 = .ok (.lastore, 1) := by decide +kernel
theorem dX1_divide_64 : decode cX1_divide 64 = .ok (.iconst 0, 1) := by decide +kernel
theorem dX1_divide_65 : decode cX1_divide 65 = .ok (.istore 5, 2) := by decide +kernel
theorem dX1_divide_67 : decode cX1_divide 67 = .ok (.iload 5, 2) := by decide +kernel
theorem dX1_divide_69 : decode cX1_divide 69 = .ok (.iload_n 3, 1) := by decide +kernel
theorem dX1_divide_70 : decode cX1_divide 70 = .ok (.if_icmp .gt 36, 3) := by decide +kernel
theorem dX1_divide_73 : decode cX1_divide 73 = .ok (.aload_n 1, 1) := by decide +kernel
theorem dX1_divide_74 : decode cX1_divide 74 = .ok (.iload_n 2, 1) := by decide +kernel
theorem dX1_divide_75 : decode cX1_divide 75 = .ok (.iload 4, 2) := by decide +kernel
theorem dX1_divide_77 : decode cX1_divide 77 = .ok (.iadd, 1) := by decide +kernel
theorem dX1_divide_78 : decode cX1_divide 78 = .ok (.iload 5, 2) := by decide +kernel
theorem dX1_divide_80 : decode cX1_divide 80 = .ok (.iadd, 1) := by decide +kernel
theorem dX1_divide_81 : decode cX1_divide 81 = .ok (.dup2, 1) := by decide +kernel
theorem dX1_divide_82 : decode cX1_divide 82 = .ok (.laload, 1) := by decide +kernel
theorem dX1_divide_83 : decode cX1_divide 83 = .ok (.aload_n 0, 1) := by decide +kernel
theorem dX1_divide_84 : decode cX1_divide 84 = .ok (.getfield 18, 3) := by decide +kernel
theorem dX1_divide_87 : decode cX1_divide 87 = .ok (.iload 4, 2) := by decide +kernel
theorem dX1_divide_89 : decode cX1_divide 89 = .ok (.laload, 1) := by decide +kernel
theorem dX1_divide_90 : decode cX1_divide 90 = .ok (.aload_n 0, 1) := by decide +kernel
theorem dX1_divide_91 : decode cX1_divide 91 = .ok (.getfield 9, 3) := by decide +kernel
theorem dX1_divide_94 : decode cX1_divide 94 = .ok (.iload 5, 2) := by decide +kernel
theorem dX1_divide_96 : decode cX1_divide 96 = .ok (.laload, 1) := by decide +kernel
theorem dX1_divide_97 : decode cX1_divide 97 = .ok (.lmul, 1) := by decide +kernel
theorem dX1_divide_98 : decode cX1_divide 98 = .ok (.lsub, 1) := by decide +kernel
theorem dX1_divide_99 : decode cX1_divide 99 = .ok (.lastore, 1) := by decide +kernel
theorem dX1_divide_100 : decode cX1_divide 100 = .ok (.iinc 5 1, 3) := by decide +kernel
theorem dX1_divide_103 : decode cX1_divide 103 = .ok (.goto (-36), 3) := by decide +kernel
theorem dX1_divide_106 : decode cX1_divide 106 = .ok (.iinc 4 (-1), 3) := by decide +kernel
theorem dX1_divide_109 : decode cX1_divide 109 = .ok (.goto (-72), 3) := by decide +kernel
theorem dX1_divide_112 : decode cX1_divide 112 = .ok (.aload_n 0, 1) := by decide +kernel
theorem dX1_divide_113 : decode cX1_divide 113 = .ok (.getfield 18, 3) := by decide +kernel
theorem dX1_divide_116 : decode cX1_divide 116 = .ok (.iconst 0, 1) := by decide +kernel
theorem dX1_divide_117 : decode cX1_divide 117 = .ok (.aload_n 1, 1) := by decide +kernel
theorem dX1_divide_118 : decode cX1_divide 118 = .ok (.iload_n 2, 1) := by decide +kernel
theorem dX1_divide_119 : decode cX1_divide 119 = .ok (.iconst 4, 1) := by decide +kernel
theorem dX1_divide_120 : decode cX1_divide 120 = .ok (.invokestatic 31, 3) := by decide +kernel
theorem dX1_divide_123 : decode cX1_divide 123 = .ok (.return_, 1) := by decide +kernel
set_option maxRecDepth 20000 in
theorem ggX2_count_X6_last : GoodIn wsX2_count wsX6_last := goodIn_r _ [5] rfl (by decide +kernel)
set_option maxRecDepth 20000 in
theorem gX2_count_X6_last : GoodIn wsX2_count (va_wsS RX2 7 yX6_last wsX6_last) := goodIn_app (goodIn_of _ (by decide +kernel)) ggX2_count_X6_last
set_option maxRecDepth 20000 in
theorem ggX2_count_X2_ofCubic : GoodIn wsX2_count wsX2_ofCubic := goodIn_r _ [9, 10, 1, 11, 12] rfl (by decide +kernel)
set_option maxRecDepth 20000 in
theorem gX2_count_X2_ofCubic : GoodIn wsX2_count (va_wsS RX2 13 yX2_ofCubic wsX2_ofCubic) := goodIn_app (goodIn_of _ (by decide +kernel)) ggX2_count_X2_ofCubic
set_option maxRecDepth 20000 in
theorem ggX2_count_J13_signum_95d88 : GoodIn wsX2_count wsJ13_signum_95d88 := goodIn_r _ [16] rfl (by decide +kernel)
set_option maxRecDepth 20000 in
theorem gX2_count_J13_signum_95d88 : GoodIn wsX2_count (va_wsS RX2 21 yJ13_signum_95d88 wsJ13_signum_95d88) := goodIn_app (goodIn_of _ (by decide +kernel)) ggX2_count_J13_signum_95d88
theorem dX2_count_0 : decode cX2_count 0 = .ok (.aload_n 0, 1) := by decide +kernel
theorem dX2_count_1 : decode cX2_count 1 = .ok (.invokestatic 7, 3) := by decide +kernel
theorem dX2_count_4 : decode cX2_count 4 = .ok (.istore_n 1, 1) := by decide +kernel
theorem dX2_count_5 : decode cX2_count 5 = .ok (.iload_n 1, 1) := by decide +kernel
theorem dX2_count_6 : decode cX2_count 6 = .ok (.iconst 3, 1) := by decide +kernel
theorem dX2_count_7 : decode cX2_count 7 = .ok (.if_icmp .ne 19, 3) := by decide +kernel
theorem dX2_count_10 : decode cX2_count 10 = .ok (.aload_n 0, 1) := by decide +kernel
theorem dX2_count_11 : decode cX2_count 11 = .ok (.iconst 3, 1) := by decide +kernel
theorem dX2_count_12 : decode cX2_count 12 = .ok (.laload, 1) := by decide +kernel
theorem dX2_count_13 : decode cX2_count 13 = .ok (.aload_n 0, 1) := by decide +kernel
theorem dX2_count_14 : decode cX2_count 14 = .ok (.iconst 2, 1) := by decide +kernel
theorem dX2_count_15 : decode cX2_count 15 = .ok (.laload, 1) := by decide +kernel
theorem dX2_count_16 : decode cX2_count 16 = .ok (.aload_n 0, 1) := by decide +kernel
theorem dX2_count_17 : decode cX2_count 17 = .ok (.iconst 1, 1) := by decide +kernel
theorem dX2_count_18 : decode cX2_count 18 = .ok (.laload, 1) := by decide +kernel
theorem dX2_count_19 : decode cX2_count 19 = .ok (.aload_n 0, 1) := by decide +kernel
theorem dX2_count_20 : decode cX2_count 20 = .ok (.iconst 0, 1) := by decide +kernel
theorem dX2_count_21 : decode cX2_count 21 = .ok (.laload, 1) := by decide +kernel
theorem dX2_count_22 : decode cX2_count 22 = .ok (.invokestatic 13, 3) := by decide +kernel
theorem dX2_count_25 : decode cX2_count 25 = .ok (.ireturn, 1) := by decide +kernel
theorem dX2_count_26 : decode cX2_count 26 = .ok (.iload_n 1, 1) := by decide +kernel
theorem dX2_count_27 : decode cX2_count 27 = .ok (.iconst 2, 1) := by decide +kernel
theorem dX2_count_28 : decode cX2_count 28 = .ok (.if_icmp .ne 28, 3) := by decide +kernel
theorem dX2_count_31 : decode cX2_count 31 = .ok (.iconst 1, 1) := by decide +kernel
theorem dX2_count_32 : decode cX2_count 32 = .ok (.aload_n 0, 1) := by decide +kernel
theorem dX2_count_33 : decode cX2_count 33 = .ok (.iconst 1, 1) := by decide +kernel
theorem dX2_count_34 : decode cX2_count 34 = .ok (.laload, 1) := by decide +kernel
theorem dX2_count_35 : decode cX2_count 35 = .ok (.aload_n 0, 1) := by decide +kernel
theorem dX2_count_36 : decode cX2_count 36 = .ok (.iconst 1, 1) := by decide +kernel
theorem dX2_count_37 : decode cX2_count 37 = .ok (.laload, 1) := by decide +kernel
theorem dX2_count_38 : decode cX2_count 38 = .ok (.lmul, 1) := by decide +kernel
theorem dX2_count_39 : decode cX2_count 39 = .ok (.ldc2_w 19, 3) := by decide +kernel
theorem dX2_count_42 : decode cX2_count 42 = .ok (.aload_n 0, 1) := by decide +kernel
theorem dX2_count_43 : decode cX2_count 43 = .ok (.iconst 2, 1) := by decide +kernel
theorem dX2_count_44 : decode cX2_count 44 = .ok (.laload, 1) := by decide +kernel
theorem dX2_count_45 : decode cX2_count 45 = .ok (.lmul, 1) := by decide +kernel
theorem dX2_count_46 : decode cX2_count 46 = .ok (.aload_n 0, 1) := by decide +kernel
theorem dX2_count_47 : decode cX2_count 47 = .ok (.iconst 0, 1) := by decide +kernel
theorem dX2_count_48 : decode cX2_count 48 = .ok (.laload, 1) := by decide +kernel
theorem dX2_count_49 : decode cX2_count 49 = .ok (.lmul, 1) := by decide +kernel
theorem dX2_count_50 : decode cX2_count 50 = .ok (.lsub, 1) := by decide +kernel
theorem dX2_count_51 : decode cX2_count 51 = .ok (.invokestatic 21, 3) := by decide +kernel
theorem dX2_count_54 : decode cX2_count 54 = .ok (.iadd, 1) := by decide +kernel
theorem dX2_count_55 : decode cX2_count 55 = .ok (.ireturn, 1) := by decide +kernel
theorem dX2_count_56 : decode cX2_count 56 = .ok (.iload_n 1, 1) := by decide +kernel
theorem dX2_count_57 : decode cX2_count 57 = .ok (.iconst 1, 1) := by decide +kernel
theorem dX2_count_58 : decode cX2_count 58 = .ok (.if_icmp .ne 7, 3) := by decide +kernel
theorem dX2_count_61 : decode cX2_count 61 = .ok (.iconst 1, 1) := by decide +kernel
theorem dX2_count_62 : decode cX2_count 62 = .ok (.goto 4, 3) := by decide +kernel
theorem dX2_count_65 : decode cX2_count 65 = .ok (.iconst 0, 1) := by decide +kernel
theorem dX2_count_66 : decode cX2_count 66 = .ok (.ireturn, 1) := by decide +kernel
theorem dX2_ofCubic_0 : decode cX2_ofCubic 0 = .ok (.ldc2_w 27, 3) := by decide +kernel
theorem dX2_ofCubic_3 : decode cX2_ofCubic 3 = .ok (.lload_n 0, 1) := by decide +kernel
theorem dX2_ofCubic_4 : decode cX2_ofCubic 4 = .ok (.lmul, 1) := by decide +kernel
theorem dX2_ofCubic_5 : decode cX2_ofCubic 5 = .ok (.lload_n 2, 1) := by decide +kernel
theorem dX2_ofCubic_6 : decode cX2_ofCubic 6 = .ok (.lmul, 1) := by decide +kernel
theorem dX2_ofCubic_7 : decode cX2_ofCubic 7 = .ok (.lload 4, 2) := by decide +kernel
theorem dX2_ofCubic_9 : decode cX2_ofCubic 9 = .ok (.lmul, 1) := by decide +kernel
theorem dX2_ofCubic_10 : decode cX2_ofCubic 10 = .ok (.lload 6, 2) := by decide +kernel
theorem dX2_ofCubic_12 : decode cX2_ofCubic 12 = .ok (.lmul, 1) := by decide +kernel
theorem dX2_ofCubic_13 : decode cX2_ofCubic 13 = .ok (.ldc2_w 19, 3) := by decide +kernel
theorem dX2_ofCubic_16 : decode cX2_ofCubic 16 = .ok (.lload_n 2, 1) := by decide +kernel
theorem dX2_ofCubic_17 : decode cX2_ofCubic 17 = .ok (.lmul, 1) := by decide +kernel
theorem dX2_ofCubic_18 : decode cX2_ofCubic 18 = .ok (.lload_n 2, 1) := by decide +kernel
theorem dX2_ofCubic_19 : decode cX2_ofCubic 19 = .ok (.lmul, 1) := by decide +kernel
theorem dX2_ofCubic_20 : decode cX2_ofCubic 20 = .ok (.lload_n 2, 1) := by decide +kernel
theorem dX2_ofCubic_21 : decode cX2_ofCubic 21 = .ok (.lmul, 1) := by decide +kernel
theorem dX2_ofCubic_22 : decode cX2_ofCubic 22 = .ok (.lload 6, 2) := by decide +kernel
theorem dX2_ofCubic_24 : decode cX2_ofCubic 24 = .ok (.lmul, 1) := by decide +kernel
theorem dX2_ofCubic_25 : decode cX2_ofCubic 25 = .ok (.lsub, 1) := by decide +kernel
theorem dX2_ofCubic_26 : decode cX2_ofCubic 26 = .ok (.lload_n 2, 1) := by decide +kernel
theorem dX2_ofCubic_27 : decode cX2_ofCubic 27 = .ok (.lload_n 2, 1) := by decide +kernel
theorem dX2_ofCubic_28 : decode cX2_ofCubic 28 = .ok (.lmul, 1) := by decide +kernel
theorem dX2_ofCubic_29 : decode cX2_ofCubic 29 = .ok (.lload 4, 2) := by decide +kernel
theorem dX2_ofCubic_31 : decode cX2_ofCubic 31 = .ok (.lmul, 1) := by decide +kernel
theorem dX2_ofCubic_32 : decode cX2_ofCubic 32 = .ok (.lload 4, 2) := by decide +kernel
theorem dX2_ofCubic_34 : decode cX2_ofCubic 34 = .ok (.lmul, 1) := by decide +kernel
theorem dX2_ofCubic_35 : decode cX2_ofCubic 35 = .ok (.ladd, 1) := by decide +kernel
theorem dX2_ofCubic_36 : decode cX2_ofCubic 36 = .ok (.ldc2_w 19, 3) := by decide +kernel
theorem dX2_ofCubic_39 : decode cX2_ofCubic 39 = .ok (.lload_n 0, 1) := by decide +kernel
theorem dX2_ofCubic_40 : decode cX2_ofCubic 40 = .ok (.lmul, 1) := by decide +kernel
theorem dX2_ofCubic_41 : decode cX2_ofCubic 41 = .ok (.lload 4, 2) := by decide +kernel
theorem dX2_ofCubic_43 : decode cX2_ofCubic 43 = .ok (.lmul, 1) := by decide +kernel
theorem dX2_ofCubic_44 : decode cX2_ofCubic 44 = .ok (.lload 4, 2) := by decide +kernel
theorem dX2_ofCubic_46 : decode cX2_ofCubic 46 = .ok (.lmul, 1) := by decide +kernel
theorem dX2_ofCubic_47 : decode cX2_ofCubic 47 = .ok (.lload 4, 2) := by decide +kernel
theorem dX2_ofCubic_49 : decode cX2_ofCubic 49 = .ok (.lmul, 1) := by decide +kernel
theorem dX2_ofCubic_50 : decode cX2_ofCubic 50 = .ok (.lsub, 1) := by decide +kernel
theorem dX2_ofCubic_51 : decode cX2_ofCubic 51 = .ok (.ldc2_w 29, 3) := by decide +kernel
theorem dX2_ofCubic_54 : decode cX2_ofCubic 54 = .ok (.lload_n 0, 1) := by decide +kernel
theorem dX2_ofCubic_55 : decode cX2_ofCubic 55 = .ok (.lmul, 1) := by decide +kernel
theorem dX2_ofCubic_56 : decode cX2_ofCubic 56 = .ok (.lload_n 0, 1) := by decide +kernel
theorem dX2_ofCubic_57 : decode cX2_ofCubic 57 = .ok (.lmul, 1) := by decide +kernel
theorem dX2_ofCubic_58 : decode cX2_ofCubic 58 = .ok (.lload 6, 2) := by decide +kernel
theorem dX2_ofCubic_60 : decode cX2_ofCubic 60 = .ok (.lmul, 1) := by decide +kernel
theorem dX2_ofCubic_61 : decode cX2_ofCubic 61 = .ok (.lload 6, 2) := by decide +kernel
theorem dX2_ofCubic_63 : decode cX2_ofCubic 63 = .ok (.lmul, 1) := by decide +kernel
theorem dX2_ofCubic_64 : decode cX2_ofCubic 64 = .ok (.lsub, 1) := by decide +kernel
theorem dX2_ofCubic_65 : decode cX2_ofCubic 65 = .ok (.lstore 8, 2) := by decide +kernel
theorem dX2_ofCubic_67 : decode cX2_ofCubic 67 = .ok (.lload 8, 2) := by decide +kernel
theorem dX2_ofCubic_69 : decode cX2_ofCubic 69 = .ok (.lconst 0, 1) := by decide +kernel
theorem dX2_ofCubic_70 : decode cX2_ofCubic 70 = .ok (.lcmp, 1) := by decide +kernel
theorem dX2_ofCubic_71 : decode cX2_ofCubic 71 = .ok (.ifCond .eq 16, 3) := by decide +kernel
theorem dX2_ofCubic_74 : decode cX2_ofCubic 74 = .ok (.lload 8, 2) := by decide +kernel
theorem dX2_ofCubic_76 : decode cX2_ofCubic 76 = .ok (.lconst 0, 1) := by decide +kernel
theorem dX2_ofCubic_77 : decode cX2_ofCubic 77 = .ok (.lcmp, 1) := by decide +kernel
theorem dX2_ofCubic_78 : decode cX2_ofCubic 78 = .ok (.ifCond .le 7, 3) := by decide +kernel
theorem dX2_ofCubic_81 : decode cX2_ofCubic 81 = .ok (.iconst 3, 1) := by decide +kernel
theorem dX2_ofCubic_82 : decode cX2_ofCubic 82 = .ok (.goto 4, 3) := by decide +kernel
theorem dX2_ofCubic_85 : decode cX2_ofCubic 85 = .ok (.iconst 1, 1) := by decide +kernel
theorem dX2_ofCubic_86 : decode cX2_ofCubic 86 = .ok (.ireturn, 1) := by decide +kernel
theorem dX2_ofCubic_87 : decode cX2_ofCubic 87 = .ok (.lload_n 2, 1) := by decide +kernel
theorem dX2_ofCubic_88 : decode cX2_ofCubic 88 = .ok (.lload_n 2, 1) := by decide +kernel
theorem dX2_ofCubic_89 : decode cX2_ofCubic 89 = .ok (.lmul, 1) := by decide +kernel
theorem dX2_ofCubic_90 : decode cX2_ofCubic 90 = .ok (.ldc2_w 31, 3) := by decide +kernel
theorem dX2_ofCubic_93 : decode cX2_ofCubic 93 = .ok (.lload_n 0, 1) := by decide +kernel
theorem dX2_ofCubic_94 : decode cX2_ofCubic 94 = .ok (.lmul, 1) := by decide +kernel
theorem dX2_ofCubic_95 : decode cX2_ofCubic 95 = .ok (.lload 4, 2) := by decide +kernel
theorem dX2_ofCubic_97 : decode cX2_ofCubic 97 = .ok (.lmul, 1) := by decide +kernel
theorem dX2_ofCubic_98 : decode cX2_ofCubic 98 = .ok (.lcmp, 1) := by decide +kernel
theorem dX2_ofCubic_99 : decode cX2_ofCubic 99 = .ok (.ifCond .ne 7, 3) := by decide +kernel
theorem dX2_ofCubic_102 : decode cX2_ofCubic 102 = .ok (.iconst 1, 1) := by decide +kernel
theorem dX2_ofCubic_103 : decode cX2_ofCubic 103 = .ok (.goto 4, 3) := by decide +kernel
theorem dX2_ofCubic_106 : decode cX2_ofCubic 106 = .ok (.iconst 2, 1) := by decide +kernel
theorem dX2_ofCubic_107 : decode cX2_ofCubic 107 = .ok (.ireturn, 1) := by decide +kernel
theorem dX3_init_0 : decode cX3_init 0 = .ok (.aload_n 0, 1) := by decide +kernel
theorem dX3_init_1 : decode cX3_init 1 = .ok (.invokespecial 1, 3) := by decide +kernel
theorem dX3_init_4 : decode cX3_init 4 = .ok (.aload_n 0, 1) := by decide +kernel
theorem dX3_init_5 : decode cX3_init 5 = .ok (.bipush 20, 2) := by decide +kernel
theorem dX3_init_7 : decode cX3_init 7 = .ok (.newarray .long, 2) := by decide +kernel
theorem dX3_init_9 : decode cX3_init 9 = .ok (.putfield 9, 3) := by decide +kernel
theorem dX3_init_12 : decode cX3_init 12 = .ok (.aload_n 0, 1) := by decide +kernel
theorem dX3_init_13 : decode cX3_init 13 = .ok (.iconst (-1), 1) := by decide +kernel
theorem dX3_init_14 : decode cX3_init 14 = .ok (.putfield 13, 3) := by decide +kernel
theorem dX3_init_17 : decode cX3_init 17 = .ok (.return_, 1) := by decide +kernel
theorem dX4_init_0 : decode cX4_init 0 = .ok (.aload_n 0, 1) := by decide +kernel
theorem dX4_init_1 : decode cX4_init 1 = .ok (.invokespecial 3, 3) := by decide +kernel
theorem dX4_init_4 : decode cX4_init 4 = .ok (.aload_n 0, 1) := by decide +kernel
theorem dX4_init_5 : decode cX4_init 5 = .ok (.bipush 24, 2) := by decide +kernel
theorem dX4_init_7 : decode cX4_init 7 = .ok (.newarray .long, 2) := by decide +kernel
theorem dX4_init_9 : decode cX4_init 9 = .ok (.putfield 9, 3) := by decide +kernel
theorem dX4_init_12 : decode cX4_init 12 = .ok (.aload_n 0, 1) := by decide +kernel
theorem dX4_init_13 : decode cX4_init 13 = .ok (.iconst 3, 1) := by decide +kernel
theorem dX4_init_14 : decode cX4_init 14 = .ok (.newarray .long, 2) := by decide +kernel
theorem dX4_init_16 : decode cX4_init 16 = .ok (.putfield 15, 3) := by decide +kernel
theorem dX4_init_19 : decode cX4_init 19 = .ok (.aload_n 0, 1) := by decide +kernel
theorem dX4_init_20 : decode cX4_init 20 = .ok (.iconst 3, 1) := by decide +kernel
theorem dX4_init_21 : decode cX4_init 21 = .ok (.newarray .long, 2) := by decide +kernel
theorem dX4_init_23 : decode cX4_init 23 = .ok (.putfield 18, 3) := by decide +kernel
theorem dX4_init_26 : decode cX4_init 26 = .ok (.aload_n 0, 1) := by decide +kernel
theorem dX4_init_27 : decode cX4_init 27 = .ok (.iconst 3, 1) := by decide +kernel
theorem dX4_init_28 : decode cX4_init 28 = .ok (.newarray .long, 2) := by decide +kernel
theorem dX4_init_30 : decode cX4_init 30 = .ok (.putfield 21, 3) := by decide +kernel
theorem dX4_init_33 : decode cX4_init 33 = .ok (.aload_n 0, 1) := by decide +kernel
theorem dX4_init_34 : decode cX4_init 34 = .ok (.iconst 4, 1) := by decide +kernel
theorem dX4_init_35 : decode cX4_init 35 = .ok (.newarray .long, 2) := by decide +kernel
theorem dX4_init_37 : decode cX4_init 37 = .ok (.putfield 24, 3) := by decide +kernel
theorem dX4_init_40 : decode cX4_init 40 = .ok (.aload_n 0, 1) := by decide +kernel
theorem dX4_init_41 : decode cX4_init 41 = .ok (.iconst 3, 1) := by decide +kernel
theorem dX4_init_42 : decode cX4_init 42 = .ok (.newarray .long, 2) := by decide +kernel
theorem dX4_init_44 : decode cX4_init 44 = .ok (.putfield 27, 3) := by decide +kernel
theorem dX4_init_47 : decode cX4_init 47 = .ok (.return_, 1) := by decide +kernel
set_option maxRecDepth 20000 in
theorem ggX4_learn_X4_degreeOf : GoodIn wsX4_learn wsX4_degreeOf := goodIn_r _ [6, 7, 8, 9, 10, 11, 12, 136, 137, 138, 139, 140, 141, 142, 143] rfl (by decide +kernel)
set_option maxRecDepth 20000 in
theorem gX4_learn_X4_degreeOf : GoodIn wsX4_learn (va_wsS RX4 30 yX4_degreeOf wsX4_degreeOf) := goodIn_app (goodIn_of _ (by decide +kernel)) ggX4_learn_X4_degreeOf
set_option maxRecDepth 20000 in
theorem ggX4_learn_X4_findForms : GoodIn wsX4_learn wsX4_findForms := goodIn_r _ [16, 17, 18, 19, 20, 21, 22, 5, 23, 24, 25, 26, 27, 28, 29, 30, 7, 8, 9, 10, 11, 12, 31, 32, 33, 34, 144, 145, 146, 147, 148, 149, 136, 137, 138, 139, 140, 141, 142, 143] rfl (by decide +kernel)
set_option maxRecDepth 20000 in
theorem gX4_learn_X4_findForms : GoodIn wsX4_learn (wsV RX4 40 RX4 yX4_findForms wsX4_findForms) := goodIn_app (goodIn_of _ (by decide +kernel)) ggX4_learn_X4_findForms
set_option maxRecDepth 20000 in
theorem ggX4_learn_X4_findRelation : GoodIn wsX4_learn wsX4_findRelation := goodIn_r _ [38, 39, 40, 41, 42, 5, 43, 19, 44, 45, 46, 10, 47, 48, 8, 9, 11, 12, 144, 145, 146, 147, 148, 149, 136, 137, 138, 139, 140, 141, 142, 143] rfl (by decide +kernel)
set_option maxRecDepth 20000 in
theorem gX4_learn_X4_findRelation : GoodIn wsX4_learn (wsV RX4 44 RX4 yX4_findRelation wsX4_findRelation) := goodIn_app (goodIn_of _ (by decide +kernel)) ggX4_learn_X4_findRelation
set_option maxRecDepth 20000 in
theorem ggX4_learn_X4_kindOf : GoodIn wsX4_learn wsX4_kindOf := goodIn_r _ [52, 39, 53, 54, 55, 56, 144, 145, 146, 147, 148, 149] rfl (by decide +kernel)
set_option maxRecDepth 20000 in
theorem gX4_learn_X4_kindOf : GoodIn wsX4_learn (wsV RX4 47 RX4 yX4_kindOf wsX4_kindOf) := goodIn_app (goodIn_of _ (by decide +kernel)) ggX4_learn_X4_kindOf
set_option maxRecDepth 20000 in
theorem ggX4_learn_X4_findEquation : GoodIn wsX4_learn wsX4_findEquation := goodIn_r _ [60, 61, 2, 62, 63, 64, 65, 66, 67, 68, 69, 70, 5, 71, 19, 72, 73, 74, 75, 76, 77, 78, 79, 80, 10, 81, 82, 83, 84, 85, 86, 87, 88, 89, 90, 91, 55, 92, 93, 94, 95, 96, 97, 98, 53, 54, 56, 99, 100, 101, 136, 137, 138, 139, 140, 141, 142, 143, 144, 145, 146, 147, 148, 149] rfl (by decide +kernel)
set_option maxRecDepth 20000 in
theorem gX4_learn_X4_findEquation : GoodIn wsX4_learn (wsV RX4 54 RX4 yX4_findEquation wsX4_findEquation) := goodIn_app (goodIn_of _ (by decide +kernel)) ggX4_learn_X4_findEquation
set_option maxRecDepth 20000 in
theorem ggX4_learn_X4_findKnotted : GoodIn wsX4_learn wsX4_findKnotted := goodIn_r _ [105, 24, 39, 25, 26, 106, 27, 28, 29, 30, 31, 32, 33, 5, 34, 90, 91, 55, 92, 93, 94, 95, 96, 97, 85, 98, 144, 145, 146, 147, 148, 149] rfl (by decide +kernel)
set_option maxRecDepth 20000 in
theorem gX4_learn_X4_findKnotted : GoodIn wsX4_learn (wsV RX4 57 RX4 yX4_findKnotted wsX4_findKnotted) := goodIn_app (goodIn_of _ (by decide +kernel)) ggX4_learn_X4_findKnotted
set_option maxRecDepth 20000 in
theorem ggX4_learn_X4_findLaw : GoodIn wsX4_learn wsX4_findLaw := goodIn_r _ [110, 39, 111, 84, 85, 86, 112, 113, 53, 54, 55, 56, 64, 65, 66, 67, 114, 115, 116, 5, 117, 19, 20, 21, 22, 23, 24, 25, 26, 27, 28, 29, 30, 7, 8, 9, 10, 11, 12, 31, 32, 33, 34, 118, 119, 120, 121, 106, 90, 91, 92, 93, 94, 95, 96, 97, 98, 99, 100, 101, 144, 145, 146, 147, 148, 149, 136, 137, 138, 139, 140, 141, 142, 143] rfl (by decide +kernel)
set_option maxRecDepth 20000 in
theorem gX4_learn_X4_findLaw : GoodIn wsX4_learn (wsV RX4 60 RX4 yX4_findLaw wsX4_findLaw) := goodIn_app (goodIn_of _ (by decide +kernel)) ggX4_learn_X4_findLaw
set_option maxRecDepth 20000 in
theorem ggX4_learn_X4_findKnot : GoodIn wsX4_learn wsX4_findKnot := goodIn_r _ [125, 24, 113, 25, 26, 126, 27, 28, 29, 30, 106, 127, 128, 31, 32, 33, 5, 34, 90, 91, 55, 92, 93, 94, 95, 96, 97, 85, 98, 129, 130, 131, 99, 100, 101, 132, 133, 134, 135, 144, 145, 146, 147, 148, 149, 136, 137, 138, 139, 140, 141, 142, 143] rfl (by decide +kernel)
set_option maxRecDepth 20000 in
theorem gX4_learn_X4_findKnot : GoodIn wsX4_learn (wsV RX4 63 RX4 yX4_findKnot wsX4_findKnot) := goodIn_app (goodIn_of _ (by decide +kernel)) ggX4_learn_X4_findKnot
theorem dX4_learn_0 : decode cX4_learn 0 = .ok (.aload_n 1, 1) := by decide +kernel
theorem dX4_learn_1 : decode cX4_learn 1 = .ok (.aload_n 1, 1) := by decide +kernel
theorem dX4_learn_2 : decode cX4_learn 2 = .ok (.invokestatic 30, 3) := by decide +kernel
theorem dX4_learn_5 : decode cX4_learn 5 = .ok (.putfield 34, 3) := by decide +kernel
theorem dX4_learn_8 : decode cX4_learn 8 = .ok (.aload_n 0, 1) := by decide +kernel
theorem dX4_learn_9 : decode cX4_learn 9 = .ok (.aload_n 1, 1) := by decide +kernel
theorem dX4_learn_10 : decode cX4_learn 10 = .ok (.invokevirtual 40, 3) := by decide +kernel
theorem dX4_learn_13 : decode cX4_learn 13 = .ok (.aload_n 0, 1) := by decide +kernel
theorem dX4_learn_14 : decode cX4_learn 14 = .ok (.aload_n 1, 1) := by decide +kernel
theorem dX4_learn_15 : decode cX4_learn 15 = .ok (.invokevirtual 44, 3) := by decide +kernel
theorem dX4_learn_18 : decode cX4_learn 18 = .ok (.aload_n 1, 1) := by decide +kernel
theorem dX4_learn_19 : decode cX4_learn 19 = .ok (.aload_n 0, 1) := by decide +kernel
theorem dX4_learn_20 : decode cX4_learn 20 = .ok (.aload_n 1, 1) := by decide +kernel
theorem dX4_learn_21 : decode cX4_learn 21 = .ok (.getfield 34, 3) := by decide +kernel
theorem dX4_learn_24 : decode cX4_learn 24 = .ok (.invokevirtual 47, 3) := by decide +kernel
theorem dX4_learn_27 : decode cX4_learn 27 = .ok (.putfield 51, 3) := by decide +kernel
theorem dX4_learn_30 : decode cX4_learn 30 = .ok (.aload_n 0, 1) := by decide +kernel
theorem dX4_learn_31 : decode cX4_learn 31 = .ok (.aload_n 1, 1) := by decide +kernel
theorem dX4_learn_32 : decode cX4_learn 32 = .ok (.invokevirtual 54, 3) := by decide +kernel
theorem dX4_learn_35 : decode cX4_learn 35 = .ok (.aload_n 1, 1) := by decide +kernel
theorem dX4_learn_36 : decode cX4_learn 36 = .ok (.getfield 51, 3) := by decide +kernel
theorem dX4_learn_39 : decode cX4_learn 39 = .ok (.iconst 3, 1) := by decide +kernel
theorem dX4_learn_40 : decode cX4_learn 40 = .ok (.if_icmp .ne 17, 3) := by decide +kernel
theorem dX4_learn_43 : decode cX4_learn 43 = .ok (.aload_n 0, 1) := by decide +kernel
theorem dX4_learn_44 : decode cX4_learn 44 = .ok (.invokevirtual 57, 3) := by decide +kernel
theorem dX4_learn_47 : decode cX4_learn 47 = .ok (.aload_n 0, 1) := by decide +kernel
theorem dX4_learn_48 : decode cX4_learn 48 = .ok (.aload_n 1, 1) := by decide +kernel
theorem dX4_learn_49 : decode cX4_learn 49 = .ok (.invokevirtual 60, 3) := by decide +kernel
theorem dX4_learn_52 : decode cX4_learn 52 = .ok (.aload_n 0, 1) := by decide +kernel
theorem dX4_learn_53 : decode cX4_learn 53 = .ok (.aload_n 1, 1) := by decide +kernel
theorem dX4_learn_54 : decode cX4_learn 54 = .ok (.invokevirtual 63, 3) := by decide +kernel
theorem dX4_learn_57 : decode cX4_learn 57 = .ok (.return_, 1) := by decide +kernel
set_option maxRecDepth 20000 in
theorem ggX4_findTouch_X0_value : GoodIn wsX4_findTouch wsX0_value := goodIn_r _ [12, 13, 14, 15, 11, 16, 17, 52, 53, 54, 55, 56, 57, 58, 59] rfl (by decide +kernel)
set_option maxRecDepth 20000 in
theorem gX4_findTouch_X0_value : GoodIn wsX4_findTouch (wsV RX4 66 RX0 yX0_value wsX0_value) := goodIn_app (goodIn_of _ (by decide +kernel)) ggX4_findTouch_X0_value
set_option maxRecDepth 20000 in
theorem ggX4_findTouch_X0_growth : GoodIn wsX4_findTouch wsX0_growth := goodIn_r _ [21, 22, 23, 13, 14, 15, 11, 16, 17, 52, 53, 54, 55, 56, 57, 58, 59] rfl (by decide +kernel)
set_option maxRecDepth 20000 in
theorem gX4_findTouch_X0_growth : GoodIn wsX4_findTouch (wsV RX4 70 RX0 yX0_growth wsX0_growth) := goodIn_app (goodIn_of _ (by decide +kernel)) ggX4_findTouch_X0_growth
set_option maxRecDepth 20000 in
theorem ggX4_findTouch_X4_cross : GoodIn wsX4_findTouch wsX4_cross := goodIn_r _ [28, 3, 1, 2, 46, 47, 48, 49, 50, 51] rfl (by decide +kernel)
set_option maxRecDepth 20000 in
theorem gX4_findTouch_X4_cross : GoodIn wsX4_findTouch (wsV RX4 73 RX4 yX4_cross wsX4_cross) := goodIn_app (goodIn_of _ (by decide +kernel)) ggX4_findTouch_X4_cross
set_option maxRecDepth 20000 in
theorem ggX4_findTouch_X6_takeOffDivisor : GoodIn wsX4_findTouch wsX6_takeOffDivisor := goodIn_r _ [32, 33, 34, 31, 35, 36, 37, 38, 39] rfl (by decide +kernel)
set_option maxRecDepth 20000 in
theorem gX4_findTouch_X6_takeOffDivisor : GoodIn wsX4_findTouch (va_wsS RX4 82 yX6_takeOffDivisor wsX6_takeOffDivisor) := goodIn_app (goodIn_of _ (by decide +kernel)) ggX4_findTouch_X6_takeOffDivisor
set_option maxRecDepth 20000 in
theorem ggX4_findTouch_X6_first : GoodIn wsX4_findTouch wsX6_first := goodIn_r _ [42] rfl (by decide +kernel)
set_option maxRecDepth 20000 in
theorem gX4_findTouch_X6_first : GoodIn wsX4_findTouch (va_wsS RX4 88 yX6_first wsX6_first) := goodIn_app (goodIn_of _ (by decide +kernel)) ggX4_findTouch_X6_first
set_option maxRecDepth 20000 in
theorem ggX4_findTouch_X6_turn : GoodIn wsX4_findTouch wsX6_turn := goodIn_r _ [45] rfl (by decide +kernel)
set_option maxRecDepth 20000 in
theorem gX4_findTouch_X6_turn : GoodIn wsX4_findTouch (va_wsS RX4 92 yX6_turn wsX6_turn) := goodIn_app (goodIn_of _ (by decide +kernel)) ggX4_findTouch_X6_turn
theorem dX4_findTouch_0 : decode cX4_findTouch 0 = .ok (.iconst 0, 1) := by decide +kernel
theorem dX4_findTouch_1 : decode cX4_findTouch 1 = .ok (.istore 5, 2) := by decide +kernel
theorem dX4_findTouch_3 : decode cX4_findTouch 3 = .ok (.iload 5, 2) := by decide +kernel
theorem dX4_findTouch_5 : decode cX4_findTouch 5 = .ok (.iconst 3, 1) := by decide +kernel
theorem dX4_findTouch_6 : decode cX4_findTouch 6 = .ok (.if_icmp .ge 43, 3) := by decide +kernel
theorem dX4_findTouch_9 : decode cX4_findTouch 9 = .ok (.aload_n 0, 1) := by decide +kernel
theorem dX4_findTouch_10 : decode cX4_findTouch 10 = .ok (.getfield 15, 3) := by decide +kernel
theorem dX4_findTouch_13 : decode cX4_findTouch 13 = .ok (.iload 5, 2) := by decide +kernel
theorem dX4_findTouch_15 : decode cX4_findTouch 15 = .ok (.aload_n 1, 1) := by decide +kernel
theorem dX4_findTouch_16 : decode cX4_findTouch 16 = .ok (.iload 5, 2) := by decide +kernel
theorem dX4_findTouch_18 : decode cX4_findTouch 18 = .ok (.iload_n 2, 1) := by decide +kernel
theorem dX4_findTouch_19 : decode cX4_findTouch 19 = .ok (.i2l, 1) := by decide +kernel
theorem dX4_findTouch_20 : decode cX4_findTouch 20 = .ok (.iload_n 3, 1) := by decide +kernel
theorem dX4_findTouch_21 : decode cX4_findTouch 21 = .ok (.i2l, 1) := by decide +kernel
theorem dX4_findTouch_22 : decode cX4_findTouch 22 = .ok (.invokevirtual 66, 3) := by decide +kernel
theorem dX4_findTouch_25 : decode cX4_findTouch 25 = .ok (.lastore, 1) := by decide +kernel
theorem dX4_findTouch_26 : decode cX4_findTouch 26 = .ok (.aload_n 0, 1) := by decide +kernel
theorem dX4_findTouch_27 : decode cX4_findTouch 27 = .ok (.getfield 18, 3) := by decide +kernel
theorem dX4_findTouch_30 : decode cX4_findTouch 30 = .ok (.iload 5, 2) := by decide +kernel
theorem dX4_findTouch_32 : decode cX4_findTouch 32 = .ok (.aload_n 1, 1) := by decide +kernel
theorem dX4_findTouch_33 : decode cX4_findTouch 33 = .ok (.iload 5, 2) := by decide +kernel
theorem dX4_findTouch_35 : decode cX4_findTouch 35 = .ok (.iload_n 2, 1) := by decide +kernel
theorem dX4_findTouch_36 : decode cX4_findTouch 36 = .ok (.i2l, 1) := by decide +kernel
theorem dX4_findTouch_37 : decode cX4_findTouch 37 = .ok (.iload_n 3, 1) := by decide +kernel
theorem dX4_findTouch_38 : decode cX4_findTouch 38 = .ok (.i2l, 1) := by decide +kernel
theorem dX4_findTouch_39 : decode cX4_findTouch 39 = .ok (.invokevirtual 70, 3) := by decide +kernel
theorem dX4_findTouch_42 : decode cX4_findTouch 42 = .ok (.lastore, 1) := by decide +kernel
theorem dX4_findTouch_43 : decode cX4_findTouch 43 = .ok (.iinc 5 1, 3) := by decide +kernel
theorem dX4_findTouch_46 : decode cX4_findTouch 46 = .ok (.goto (-43), 3) := by decide +kernel
theorem dX4_findTouch_49 : decode cX4_findTouch 49 = .ok (.aload_n 0, 1) := by decide +kernel
theorem dX4_findTouch_50 : decode cX4_findTouch 50 = .ok (.invokevirtual 73, 3) := by decide +kernel
theorem dX4_findTouch_53 : decode cX4_findTouch 53 = .ok (.aload_n 0, 1) := by decide +kernel
theorem dX4_findTouch_54 : decode cX4_findTouch 54 = .ok (.getfield 21, 3) := by decide +kernel
theorem dX4_findTouch_57 : decode cX4_findTouch 57 = .ok (.iconst 0, 1) := by decide +kernel
theorem dX4_findTouch_58 : decode cX4_findTouch 58 = .ok (.aload 4, 2) := by decide +kernel
theorem dX4_findTouch_60 : decode cX4_findTouch 60 = .ok (.iconst 0, 1) := by decide +kernel
theorem dX4_findTouch_61 : decode cX4_findTouch 61 = .ok (.iconst 3, 1) := by decide +kernel
theorem dX4_findTouch_62 : decode cX4_findTouch 62 = .ok (.invokestatic 76, 3) := by decide +kernel
theorem dX4_findTouch_65 : decode cX4_findTouch 65 = .ok (.aload 4, 2) := by decide +kernel
theorem dX4_findTouch_67 : decode cX4_findTouch 67 = .ok (.invokestatic 82, 3) := by decide +kernel
theorem dX4_findTouch_70 : decode cX4_findTouch 70 = .ok (.aload 4, 2) := by decide +kernel
theorem dX4_findTouch_72 : decode cX4_findTouch 72 = .ok (.aload 4, 2) := by decide +kernel
theorem dX4_findTouch_74 : decode cX4_findTouch 74 = .ok (.invokestatic 88, 3) := by decide +kernel
theorem dX4_findTouch_77 : decode cX4_findTouch 77 = .ok (.invokestatic 92, 3) := by decide +kernel
theorem dX4_findTouch_80 : decode cX4_findTouch 80 = .ok (.return_, 1) := by decide +kernel
set_option maxRecDepth 20000 in
theorem ggX4_degreeOf_X0_number : GoodIn wsX4_degreeOf wsX0_number := goodIn_r _ [5, 6, 7, 8, 9, 10, 11, 12, 13, 14] rfl (by decide +kernel)
set_option maxRecDepth 20000 in
theorem gX4_degreeOf_X0_number : GoodIn wsX4_degreeOf (wsV RX4 96 RX0 yX0_number wsX0_number) := goodIn_app (goodIn_of _ (by decide +kernel)) ggX4_degreeOf_X0_number
theorem dX4_degreeOf_0 : decode cX4_degreeOf 0 = .ok (.iconst 3, 1) := by decide +kernel
theorem dX4_degreeOf_1 : decode cX4_degreeOf 1 = .ok (.istore_n 1, 1) := by decide +kernel
theorem dX4_degreeOf_2 : decode cX4_degreeOf 2 = .ok (.iload_n 1, 1) := by decide +kernel
theorem dX4_degreeOf_3 : decode cX4_degreeOf 3 = .ok (.ifCond .le 44, 3) := by decide +kernel
theorem dX4_degreeOf_6 : decode cX4_degreeOf 6 = .ok (.aload_n 0, 1) := by decide +kernel
theorem dX4_degreeOf_7 : decode cX4_degreeOf 7 = .ok (.iconst 0, 1) := by decide +kernel
theorem dX4_degreeOf_8 : decode cX4_degreeOf 8 = .ok (.iload_n 1, 1) := by decide +kernel
theorem dX4_degreeOf_9 : decode cX4_degreeOf 9 = .ok (.invokevirtual 96, 3) := by decide +kernel
theorem dX4_degreeOf_12 : decode cX4_degreeOf 12 = .ok (.lconst 0, 1) := by decide +kernel
theorem dX4_degreeOf_13 : decode cX4_degreeOf 13 = .ok (.lcmp, 1) := by decide +kernel
theorem dX4_degreeOf_14 : decode cX4_degreeOf 14 = .ok (.ifCond .ne 25, 3) := by decide +kernel
theorem dX4_degreeOf_17 : decode cX4_degreeOf 17 = .ok (.aload_n 0, 1) := by decide +kernel
theorem dX4_degreeOf_18 : decode cX4_degreeOf 18 = .ok (.iconst 1, 1) := by decide +kernel
theorem dX4_degreeOf_19 : decode cX4_degreeOf 19 = .ok (.iload_n 1, 1) := by decide +kernel
theorem dX4_degreeOf_20 : decode cX4_degreeOf 20 = .ok (.invokevirtual 96, 3) := by decide +kernel
theorem dX4_degreeOf_23 : decode cX4_degreeOf 23 = .ok (.lconst 0, 1) := by decide +kernel
theorem dX4_degreeOf_24 : decode cX4_degreeOf 24 = .ok (.lcmp, 1) := by decide +kernel
theorem dX4_degreeOf_25 : decode cX4_degreeOf 25 = .ok (.ifCond .ne 14, 3) := by decide +kernel
theorem dX4_degreeOf_28 : decode cX4_degreeOf 28 = .ok (.aload_n 0, 1) := by decide +kernel
theorem dX4_degreeOf_29 : decode cX4_degreeOf 29 = .ok (.iconst 2, 1) := by decide +kernel
theorem dX4_degreeOf_30 : decode cX4_degreeOf 30 = .ok (.iload_n 1, 1) := by decide +kernel
theorem dX4_degreeOf_31 : decode cX4_degreeOf 31 = .ok (.invokevirtual 96, 3) := by decide +kernel
theorem dX4_degreeOf_34 : decode cX4_degreeOf 34 = .ok (.lconst 0, 1) := by decide +kernel
theorem dX4_degreeOf_35 : decode cX4_degreeOf 35 = .ok (.lcmp, 1) := by decide +kernel
theorem dX4_degreeOf_36 : decode cX4_degreeOf 36 = .ok (.ifCond .eq 5, 3) := by decide +kernel
theorem dX4_degreeOf_39 : decode cX4_degreeOf 39 = .ok (.iload_n 1, 1) := by decide +kernel
theorem dX4_degreeOf_40 : decode cX4_degreeOf 40 = .ok (.ireturn, 1) := by decide +kernel
theorem dX4_degreeOf_41 : decode cX4_degreeOf 41 = .ok (.iinc 1 (-1), 3) := by decide +kernel
theorem dX4_degreeOf_44 : decode cX4_degreeOf 44 = .ok (.goto (-42), 3) := by decide +kernel
theorem dX4_degreeOf_47 : decode cX4_degreeOf 47 = .ok (.iconst 0, 1) := by decide +kernel
theorem dX4_degreeOf_48 : decode cX4_degreeOf 48 = .ok (.ireturn, 1) := by decide +kernel
set_option maxRecDepth 20000 in
theorem ggX4_kindOf_X6_first : GoodIn wsX4_kindOf wsX6_first := goodIn_r _ [5] rfl (by decide +kernel)
set_option maxRecDepth 20000 in
theorem gX4_kindOf_X6_first : GoodIn wsX4_kindOf (va_wsS RX4 88 yX6_first wsX6_first) := goodIn_app (goodIn_of _ (by decide +kernel)) ggX4_kindOf_X6_first
theorem dX4_kindOf_0 : decode cX4_kindOf 0 = .ok (.iload_n 1, 1) := by decide +kernel
theorem dX4_kindOf_1 : decode cX4_kindOf 1 = .ok (.ifCond .ne 5, 3) := by decide +kernel
theorem dX4_kindOf_4 : decode cX4_kindOf 4 = .ok (.iconst 0, 1) := by decide +kernel
theorem dX4_kindOf_5 : decode cX4_kindOf 5 = .ok (.ireturn, 1) := by decide +kernel
theorem dX4_kindOf_6 : decode cX4_kindOf 6 = .ok (.aload_n 0, 1) := by decide +kernel
theorem dX4_kindOf_7 : decode cX4_kindOf 7 = .ok (.getfield 24, 3) := by decide +kernel
theorem dX4_kindOf_10 : decode cX4_kindOf 10 = .ok (.invokestatic 88, 3) := by decide +kernel
theorem dX4_kindOf_13 : decode cX4_kindOf 13 = .ok (.ifCond .ge 5, 3) := by decide +kernel
theorem dX4_kindOf_16 : decode cX4_kindOf 16 = .ok (.iconst 1, 1) := by decide +kernel
theorem dX4_kindOf_17 : decode cX4_kindOf 17 = .ok (.ireturn, 1) := by decide +kernel
theorem dX4_kindOf_18 : decode cX4_kindOf 18 = .ok (.iload_n 1, 1) := by decide +kernel
theorem dX4_kindOf_19 : decode cX4_kindOf 19 = .ok (.iconst 2, 1) := by decide +kernel
theorem dX4_kindOf_20 : decode cX4_kindOf 20 = .ok (.if_icmp .ne 7, 3) := by decide +kernel
theorem dX4_kindOf_23 : decode cX4_kindOf 23 = .ok (.iconst 2, 1) := by decide +kernel
theorem dX4_kindOf_24 : decode cX4_kindOf 24 = .ok (.goto 4, 3) := by decide +kernel
theorem dX4_kindOf_27 : decode cX4_kindOf 27 = .ok (.iconst 3, 1) := by decide +kernel
theorem dX4_kindOf_28 : decode cX4_kindOf 28 = .ok (.ireturn, 1) := by decide +kernel
theorem dX4_cross_0 : decode cX4_cross 0 = .ok (.aload_n 0, 1) := by decide +kernel
theorem dX4_cross_1 : decode cX4_cross 1 = .ok (.getfield 21, 3) := by decide +kernel
theorem dX4_cross_4 : decode cX4_cross 4 = .ok (.iconst 0, 1) := by decide +kernel
theorem dX4_cross_5 : decode cX4_cross 5 = .ok (.aload_n 0, 1) := by decide +kernel
theorem dX4_cross_6 : decode cX4_cross 6 = .ok (.getfield 15, 3) := by decide +kernel
theorem dX4_cross_9 : decode cX4_cross 9 = .ok (.iconst 1, 1) := by decide +kernel
theorem dX4_cross_10 : decode cX4_cross 10 = .ok (.laload, 1) := by decide +kernel
theorem dX4_cross_11 : decode cX4_cross 11 = .ok (.aload_n 0, 1) := by decide +kernel
theorem dX4_cross_12 : decode cX4_cross 12 = .ok (.getfield 18, 3) := by decide +kernel
theorem dX4_cross_15 : decode cX4_cross 15 = .ok (.iconst 2, 1) := by decide +kernel
theorem dX4_cross_16 : decode cX4_cross 16 = .ok (.laload, 1) := by decide +kernel
theorem dX4_cross_17 : decode cX4_cross 17 = .ok (.lmul, 1) := by decide +kernel
theorem dX4_cross_18 : decode cX4_cross 18 = .ok (.aload_n 0, 1) := by decide +kernel
theorem dX4_cross_19 : decode cX4_cross 19 = .ok (.getfield 15, 3) := by decide +kernel
theorem dX4_cross_22 : decode cX4_cross 22 = .ok (.iconst 2, 1) := by decide +kernel
theorem dX4_cross_23 : decode cX4_cross 23 = .ok (.laload, 1) := by decide +kernel
theorem dX4_cross_24 : decode cX4_cross 24 = .ok (.aload_n 0, 1) := by decide +kernel
theorem dX4_cross_25 : decode cX4_cross 25 = .ok (.getfield 18, 3) := by decide +kernel
theorem dX4_cross_28 : decode cX4_cross 28 = .ok (.iconst 1, 1) := by decide +kernel
theorem dX4_cross_29 : decode cX4_cross 29 = .ok (.laload, 1) := by decide +kernel
theorem dX4_cross_30 : decode cX4_cross 30 = .ok (.lmul, 1) := by decide +kernel
theorem dX4_cross_31 : decode cX4_cross 31 = .ok (.lsub, 1) := by decide +kernel
theorem dX4_cross_32 : decode cX4_cross 32 = .ok (.lastore, 1) := by decide +kernel
theorem dX4_cross_33 : decode cX4_cross 33 = .ok (.aload_n 0, 1) := by decide +kernel
theorem dX4_cross_34 : decode cX4_cross 34 = .ok (.getfield 21, 3) := by decide +kernel
theorem dX4_cross_37 : decode cX4_cross 37 = .ok (.iconst 1, 1) := by decide +kernel
theorem dX4_cross_38 : decode cX4_cross 38 = .ok (.aload_n 0, 1) := by decide +kernel
theorem dX4_cross_39 : decode cX4_cross 39 = .ok (.getfield 15, 3) := by decide +kernel
theorem dX4_cross_42 : decode cX4_cross 42 = .ok (.iconst 2, 1) := by decide +kernel
theorem dX4_cross_43 : decode cX4_cross 43 = .ok (.laload, 1) := by decide +kernel
theorem dX4_cross_44 : decode cX4_cross 44 = .ok (.aload_n 0, 1) := by decide +kernel
theorem dX4_cross_45 : decode cX4_cross 45 = .ok (.getfield 18, 3) := by decide +kernel
theorem dX4_cross_48 : decode cX4_cross 48 = .ok (.iconst 0, 1) := by decide +kernel
theorem dX4_cross_49 : decode cX4_cross 49 = .ok (.laload, 1) := by decide +kernel
theorem dX4_cross_50 : decode cX4_cross 50 = .ok (.lmul, 1) := by decide +kernel
theorem dX4_cross_51 : decode cX4_cross 51 = .ok (.aload_n 0, 1) := by decide +kernel
theorem dX4_cross_52 : decode cX4_cross 52 = .ok (.getfield 15, 3) := by decide +kernel
theorem dX4_cross_55 : decode cX4_cross 55 = .ok (.iconst 0, 1) := by decide +kernel
theorem dX4_cross_56 : decode cX4_cross 56 = .ok (.laload, 1) := by decide +kernel
theorem dX4_cross_57 : decode cX4_cross 57 = .ok (.aload_n 0, 1) := by decide +kernel
theorem dX4_cross_58 : decode cX4_cross 58 = .ok (.getfield 18, 3) := by decide +kernel
theorem dX4_cross_61 : decode cX4_cross 61 = .ok (.iconst 2, 1) := by decide +kernel
theorem dX4_cross_62 : decode cX4_cross 62 = .ok (.laload, 1) := by decide +kernel
theorem dX4_cross_63 : decode cX4_cross 63 = .ok (.lmul, 1) := by decide +kernel
theorem dX4_cross_64 : decode cX4_cross 64 = .ok (.lsub, 1) := by decide +kernel
theorem dX4_cross_65 : decode cX4_cross 65 = .ok (.lastore, 1) := by decide +kernel
theorem dX4_cross_66 : decode cX4_cross 66 = .ok (.aload_n 0, 1) := by decide +kernel
theorem dX4_cross_67 : decode cX4_cross 67 = .ok (.getfield 21, 3) := by decide +kernel
theorem dX4_cross_70 : decode cX4_cross 70 = .ok (.iconst 2, 1) := by decide +kernel
theorem dX4_cross_71 : decode cX4_cross 71 = .ok (.aload_n 0, 1) := by decide +kernel
theorem dX4_cross_72 : decode cX4_cross 72 = .ok (.getfield 15, 3) := by decide +kernel
theorem dX4_cross_75 : decode cX4_cross 75 = .ok (.iconst 0, 1) := by decide +kernel
theorem dX4_cross_76 : decode cX4_cross 76 = .ok (.laload, 1) := by decide +kernel
theorem dX4_cross_77 : decode cX4_cross 77 = .ok (.aload_n 0, 1) := by decide +kernel
theorem dX4_cross_78 : decode cX4_cross 78 = .ok (.getfield 18, 3) := by decide +kernel
theorem dX4_cross_81 : decode cX4_cross 81 = .ok (.iconst 1, 1) := by decide +kernel
theorem dX4_cross_82 : decode cX4_cross 82 = .ok (.laload, 1) := by decide +kernel
theorem dX4_cross_83 : decode cX4_cross 83 = .ok (.lmul, 1) := by decide +kernel
theorem dX4_cross_84 : decode cX4_cross 84 = .ok (.aload_n 0, 1) := by decide +kernel
theorem dX4_cross_85 : decode cX4_cross 85 = .ok (.getfield 15, 3) := by decide +kernel
theorem dX4_cross_88 : decode cX4_cross 88 = .ok (.iconst 1, 1) := by decide +kernel
theorem dX4_cross_89 : decode cX4_cross 89 = .ok (.laload, 1) := by decide +kernel
theorem dX4_cross_90 : decode cX4_cross 90 = .ok (.aload_n 0, 1) := by decide +kernel
theorem dX4_cross_91 : decode cX4_cross 91 = .ok (.getfield 18, 3) := by decide +kernel
theorem dX4_cross_94 : decode cX4_cross 94 = .ok (.iconst 0, 1) := by decide +kernel
theorem dX4_cross_95 : decode cX4_cross 95 = .ok (.laload, 1) := by decide +kernel
theorem dX4_cross_96 : decode cX4_cross 96 = .ok (.lmul, 1) := by decide +kernel
theorem dX4_cross_97 : decode cX4_cross 97 = .ok (.lsub, 1) := by decide +kernel
theorem dX4_cross_98 : decode cX4_cross 98 = .ok (.lastore, 1) := by decide +kernel
theorem dX4_cross_99 : decode cX4_cross 99 = .ok (.return_, 1) := by decide +kernel
set_option maxRecDepth 20000 in
theorem ggX4_findForms_X4_findForm : GoodIn wsX4_findForms wsX4_findForm := goodIn_r _ [8, 9, 10, 11, 3, 12, 13, 14, 15, 16, 17, 18, 19, 20, 21, 22, 23, 24, 7, 25, 26, 27, 28, 29, 30, 31, 32, 33, 34, 35, 36, 37, 38, 39] rfl (by decide +kernel)
set_option maxRecDepth 20000 in
theorem gX4_findForms_X4_findForm : GoodIn wsX4_findForms (wsV RX4 107 RX4 yX4_findForm wsX4_findForm) := goodIn_app (goodIn_of _ (by decide +kernel)) ggX4_findForms_X4_findForm
theorem dX4_findForms_0 : decode cX4_findForms 0 = .ok (.iconst 0, 1) := by decide +kernel
theorem dX4_findForms_1 : decode cX4_findForms 1 = .ok (.istore_n 2, 1) := by decide +kernel
theorem dX4_findForms_2 : decode cX4_findForms 2 = .ok (.iload_n 2, 1) := by decide +kernel
theorem dX4_findForms_3 : decode cX4_findForms 3 = .ok (.iconst 5, 1) := by decide +kernel
theorem dX4_findForms_4 : decode cX4_findForms 4 = .ok (.if_icmp .gt 25, 3) := by decide +kernel
theorem dX4_findForms_7 : decode cX4_findForms 7 = .ok (.aload_n 0, 1) := by decide +kernel
theorem dX4_findForms_8 : decode cX4_findForms 8 = .ok (.aload_n 1, 1) := by decide +kernel
theorem dX4_findForms_9 : decode cX4_findForms 9 = .ok (.iload_n 2, 1) := by decide +kernel
theorem dX4_findForms_10 : decode cX4_findForms 10 = .ok (.getstatic 100, 3) := by decide +kernel
theorem dX4_findForms_13 : decode cX4_findForms 13 = .ok (.iload_n 2, 1) := by decide +kernel
theorem dX4_findForms_14 : decode cX4_findForms 14 = .ok (.iaload, 1) := by decide +kernel
theorem dX4_findForms_15 : decode cX4_findForms 15 = .ok (.getstatic 104, 3) := by decide +kernel
theorem dX4_findForms_18 : decode cX4_findForms 18 = .ok (.iload_n 2, 1) := by decide +kernel
theorem dX4_findForms_19 : decode cX4_findForms 19 = .ok (.iaload, 1) := by decide +kernel
theorem dX4_findForms_20 : decode cX4_findForms 20 = .ok (.invokevirtual 107, 3) := by decide +kernel
theorem dX4_findForms_23 : decode cX4_findForms 23 = .ok (.iinc 2 1, 3) := by decide +kernel
theorem dX4_findForms_26 : decode cX4_findForms 26 = .ok (.goto (-24), 3) := by decide +kernel
theorem dX4_findForms_29 : decode cX4_findForms 29 = .ok (.iconst 0, 1) := by decide +kernel
theorem dX4_findForms_30 : decode cX4_findForms 30 = .ok (.istore_n 2, 1) := by decide +kernel
theorem dX4_findForms_31 : decode cX4_findForms 31 = .ok (.iload_n 2, 1) := by decide +kernel
theorem dX4_findForms_32 : decode cX4_findForms 32 = .ok (.iconst 3, 1) := by decide +kernel
theorem dX4_findForms_33 : decode cX4_findForms 33 = .ok (.if_icmp .ge 56, 3) := by decide +kernel
theorem dX4_findForms_36 : decode cX4_findForms 36 = .ok (.aload_n 0, 1) := by decide +kernel
theorem dX4_findForms_37 : decode cX4_findForms 37 = .ok (.getfield 9, 3) := by decide +kernel
theorem dX4_findForms_40 : decode cX4_findForms 40 = .ok (.bipush 18, 2) := by decide +kernel
theorem dX4_findForms_42 : decode cX4_findForms 42 = .ok (.iload_n 2, 1) := by decide +kernel
theorem dX4_findForms_43 : decode cX4_findForms 43 = .ok (.iadd, 1) := by decide +kernel
theorem dX4_findForms_44 : decode cX4_findForms 44 = .ok (.aload_n 0, 1) := by decide +kernel
theorem dX4_findForms_45 : decode cX4_findForms 45 = .ok (.getfield 9, 3) := by decide +kernel
theorem dX4_findForms_48 : decode cX4_findForms 48 = .ok (.bipush 6, 2) := by decide +kernel
theorem dX4_findForms_50 : decode cX4_findForms 50 = .ok (.iload_n 2, 1) := by decide +kernel
theorem dX4_findForms_51 : decode cX4_findForms 51 = .ok (.iadd, 1) := by decide +kernel
theorem dX4_findForms_52 : decode cX4_findForms 52 = .ok (.laload, 1) := by decide +kernel
theorem dX4_findForms_53 : decode cX4_findForms 53 = .ok (.aload_n 0, 1) := by decide +kernel
theorem dX4_findForms_54 : decode cX4_findForms 54 = .ok (.getfield 9, 3) := by decide +kernel
theorem dX4_findForms_57 : decode cX4_findForms 57 = .ok (.bipush 9, 2) := by decide +kernel
theorem dX4_findForms_59 : decode cX4_findForms 59 = .ok (.iload_n 2, 1) := by decide +kernel
theorem dX4_findForms_60 : decode cX4_findForms 60 = .ok (.iadd, 1) := by decide +kernel
theorem dX4_findForms_61 : decode cX4_findForms 61 = .ok (.laload, 1) := by decide +kernel
theorem dX4_findForms_62 : decode cX4_findForms 62 = .ok (.ladd, 1) := by decide +kernel
theorem dX4_findForms_63 : decode cX4_findForms 63 = .ok (.lastore, 1) := by decide +kernel
theorem dX4_findForms_64 : decode cX4_findForms 64 = .ok (.aload_n 0, 1) := by decide +kernel
theorem dX4_findForms_65 : decode cX4_findForms 65 = .ok (.getfield 9, 3) := by decide +kernel
theorem dX4_findForms_68 : decode cX4_findForms 68 = .ok (.bipush 21, 2) := by decide +kernel
theorem dX4_findForms_70 : decode cX4_findForms 70 = .ok (.iload_n 2, 1) := by decide +kernel
theorem dX4_findForms_71 : decode cX4_findForms 71 = .ok (.iadd, 1) := by decide +kernel
theorem dX4_findForms_72 : decode cX4_findForms 72 = .ok (.iload_n 2, 1) := by decide +kernel
theorem dX4_findForms_73 : decode cX4_findForms 73 = .ok (.iconst 2, 1) := by decide +kernel
theorem dX4_findForms_74 : decode cX4_findForms 74 = .ok (.if_icmp .ne 7, 3) := by decide +kernel
theorem dX4_findForms_77 : decode cX4_findForms 77 = .ok (.lconst 1, 1) := by decide +kernel
theorem dX4_findForms_78 : decode cX4_findForms 78 = .ok (.goto 4, 3) := by decide +kernel
theorem dX4_findForms_81 : decode cX4_findForms 81 = .ok (.lconst 0, 1) := by decide +kernel
theorem dX4_findForms_82 : decode cX4_findForms 82 = .ok (.lastore, 1) := by decide +kernel
theorem dX4_findForms_83 : decode cX4_findForms 83 = .ok (.iinc 2 1, 3) := by decide +kernel
theorem dX4_findForms_86 : decode cX4_findForms 86 = .ok (.goto (-55), 3) := by decide +kernel
theorem dX4_findForms_89 : decode cX4_findForms 89 = .ok (.return_, 1) := by decide +kernel
set_option maxRecDepth 20000 in
theorem ggX4_findForm_X0_number : GoodIn wsX4_findForm wsX0_number := goodIn_r _ [13, 14, 26, 27, 28, 29, 30, 31, 32, 33] rfl (by decide +kernel)
set_option maxRecDepth 20000 in
theorem gX4_findForm_X0_number : GoodIn wsX4_findForm (wsV RX4 96 RX0 yX0_number wsX0_number) := goodIn_app (goodIn_of _ (by decide +kernel)) ggX4_findForm_X0_number
set_option maxRecDepth 20000 in
theorem ggX4_findForm_X4_cross : GoodIn wsX4_findForm wsX4_cross := goodIn_r _ [19, 3, 1, 2, 20, 21, 22, 23, 24, 25] rfl (by decide +kernel)
set_option maxRecDepth 20000 in
theorem gX4_findForm_X4_cross : GoodIn wsX4_findForm (wsV RX4 73 RX4 yX4_cross wsX4_cross) := goodIn_app (goodIn_of _ (by decide +kernel)) ggX4_findForm_X4_cross
theorem dX4_findForm_0 : decode cX4_findForm 0 = .ok (.iconst 0, 1) := by decide +kernel
theorem dX4_findForm_1 : decode cX4_findForm 1 = .ok (.istore 5, 2) := by decide +kernel
theorem dX4_findForm_3 : decode cX4_findForm 3 = .ok (.iload 5, 2) := by decide +kernel
theorem dX4_findForm_5 : decode cX4_findForm 5 = .ok (.iconst 3, 1) := by decide +kernel
theorem dX4_findForm_6 : decode cX4_findForm 6 = .ok (.if_icmp .ge 38, 3) := by decide +kernel
theorem dX4_findForm_9 : decode cX4_findForm 9 = .ok (.aload_n 0, 1) := by decide +kernel
theorem dX4_findForm_10 : decode cX4_findForm 10 = .ok (.getfield 15, 3) := by decide +kernel
theorem dX4_findForm_13 : decode cX4_findForm 13 = .ok (.iload 5, 2) := by decide +kernel
theorem dX4_findForm_15 : decode cX4_findForm 15 = .ok (.aload_n 1, 1) := by decide +kernel
theorem dX4_findForm_16 : decode cX4_findForm 16 = .ok (.iload 5, 2) := by decide +kernel
theorem dX4_findForm_18 : decode cX4_findForm 18 = .ok (.iload_n 3, 1) := by decide +kernel
theorem dX4_findForm_19 : decode cX4_findForm 19 = .ok (.invokevirtual 96, 3) := by decide +kernel
theorem dX4_findForm_22 : decode cX4_findForm 22 = .ok (.lastore, 1) := by decide +kernel
theorem dX4_findForm_23 : decode cX4_findForm 23 = .ok (.aload_n 0, 1) := by decide +kernel
theorem dX4_findForm_24 : decode cX4_findForm 24 = .ok (.getfield 18, 3) := by decide +kernel
theorem dX4_findForm_27 : decode cX4_findForm 27 = .ok (.iload 5, 2) := by decide +kernel
theorem dX4_findForm_29 : decode cX4_findForm 29 = .ok (.aload_n 1, 1) := by decide +kernel
theorem dX4_findForm_30 : decode cX4_findForm 30 = .ok (.iload 5, 2) := by decide +kernel
theorem dX4_findForm_32 : decode cX4_findForm 32 = .ok (.iload 4, 2) := by decide +kernel
theorem dX4_findForm_34 : decode cX4_findForm 34 = .ok (.invokevirtual 96, 3) := by decide +kernel
theorem dX4_findForm_37 : decode cX4_findForm 37 = .ok (.lastore, 1) := by decide +kernel
theorem dX4_findForm_38 : decode cX4_findForm 38 = .ok (.iinc 5 1, 3) := by decide +kernel
theorem dX4_findForm_41 : decode cX4_findForm 41 = .ok (.goto (-38), 3) := by decide +kernel
theorem dX4_findForm_44 : decode cX4_findForm 44 = .ok (.aload_n 0, 1) := by decide +kernel
theorem dX4_findForm_45 : decode cX4_findForm 45 = .ok (.invokevirtual 73, 3) := by decide +kernel
theorem dX4_findForm_48 : decode cX4_findForm 48 = .ok (.aload_n 0, 1) := by decide +kernel
theorem dX4_findForm_49 : decode cX4_findForm 49 = .ok (.getfield 21, 3) := by decide +kernel
theorem dX4_findForm_52 : decode cX4_findForm 52 = .ok (.iconst 0, 1) := by decide +kernel
theorem dX4_findForm_53 : decode cX4_findForm 53 = .ok (.aload_n 0, 1) := by decide +kernel
theorem dX4_findForm_54 : decode cX4_findForm 54 = .ok (.getfield 9, 3) := by decide +kernel
theorem dX4_findForm_57 : decode cX4_findForm 57 = .ok (.iconst 3, 1) := by decide +kernel
theorem dX4_findForm_58 : decode cX4_findForm 58 = .ok (.iload_n 2, 1) := by decide +kernel
theorem dX4_findForm_59 : decode cX4_findForm 59 = .ok (.imul, 1) := by decide +kernel
theorem dX4_findForm_60 : decode cX4_findForm 60 = .ok (.iconst 3, 1) := by decide +kernel
theorem dX4_findForm_61 : decode cX4_findForm 61 = .ok (.invokestatic 76, 3) := by decide +kernel
theorem dX4_findForm_64 : decode cX4_findForm 64 = .ok (.return_, 1) := by decide +kernel
set_option maxRecDepth 20000 in
theorem ggX4_findRelation_X4_formAt : GoodIn wsX4_findRelation wsX4_formAt := goodIn_r _ [6, 7, 8, 9, 10, 11, 12, 13, 14, 15, 16, 17, 18, 19, 20, 21, 22, 23, 24, 25, 26, 27, 28, 29, 30, 31] rfl (by decide +kernel)
set_option maxRecDepth 20000 in
theorem gX4_findRelation_X4_formAt : GoodIn wsX4_findRelation (wsV RX4 111 RX4 yX4_formAt wsX4_formAt) := goodIn_app (goodIn_of _ (by decide +kernel)) ggX4_findRelation_X4_formAt
theorem dX4_findRelation_0 : decode cX4_findRelation 0 = .ok (.aload_n 0, 1) := by decide +kernel
theorem dX4_findRelation_1 : decode cX4_findRelation 1 = .ok (.getfield 24, 3) := by decide +kernel
theorem dX4_findRelation_4 : decode cX4_findRelation 4 = .ok (.iconst 0, 1) := by decide +kernel
theorem dX4_findRelation_5 : decode cX4_findRelation 5 = .ok (.aload_n 0, 1) := by decide +kernel
theorem dX4_findRelation_6 : decode cX4_findRelation 6 = .ok (.iconst 5, 1) := by decide +kernel
theorem dX4_findRelation_7 : decode cX4_findRelation 7 = .ok (.aload_n 1, 1) := by decide +kernel
theorem dX4_findRelation_8 : decode cX4_findRelation 8 = .ok (.iconst 1, 1) := by decide +kernel
theorem dX4_findRelation_9 : decode cX4_findRelation 9 = .ok (.invokevirtual 111, 3) := by decide +kernel
theorem dX4_findRelation_12 : decode cX4_findRelation 12 = .ok (.lastore, 1) := by decide +kernel
theorem dX4_findRelation_13 : decode cX4_findRelation 13 = .ok (.aload_n 0, 1) := by decide +kernel
theorem dX4_findRelation_14 : decode cX4_findRelation 14 = .ok (.getfield 24, 3) := by decide +kernel
theorem dX4_findRelation_17 : decode cX4_findRelation 17 = .ok (.iconst 1, 1) := by decide +kernel
theorem dX4_findRelation_18 : decode cX4_findRelation 18 = .ok (.aload_n 0, 1) := by decide +kernel
theorem dX4_findRelation_19 : decode cX4_findRelation 19 = .ok (.iconst 5, 1) := by decide +kernel
theorem dX4_findRelation_20 : decode cX4_findRelation 20 = .ok (.aload_n 1, 1) := by decide +kernel
theorem dX4_findRelation_21 : decode cX4_findRelation 21 = .ok (.iconst 0, 1) := by decide +kernel
theorem dX4_findRelation_22 : decode cX4_findRelation 22 = .ok (.invokevirtual 111, 3) := by decide +kernel
theorem dX4_findRelation_25 : decode cX4_findRelation 25 = .ok (.lneg, 1) := by decide +kernel
theorem dX4_findRelation_26 : decode cX4_findRelation 26 = .ok (.lastore, 1) := by decide +kernel
theorem dX4_findRelation_27 : decode cX4_findRelation 27 = .ok (.aload_n 0, 1) := by decide +kernel
theorem dX4_findRelation_28 : decode cX4_findRelation 28 = .ok (.getfield 24, 3) := by decide +kernel
theorem dX4_findRelation_31 : decode cX4_findRelation 31 = .ok (.iconst 2, 1) := by decide +kernel
theorem dX4_findRelation_32 : decode cX4_findRelation 32 = .ok (.aload_n 0, 1) := by decide +kernel
theorem dX4_findRelation_33 : decode cX4_findRelation 33 = .ok (.iconst 4, 1) := by decide +kernel
theorem dX4_findRelation_34 : decode cX4_findRelation 34 = .ok (.aload_n 1, 1) := by decide +kernel
theorem dX4_findRelation_35 : decode cX4_findRelation 35 = .ok (.iconst 0, 1) := by decide +kernel
theorem dX4_findRelation_36 : decode cX4_findRelation 36 = .ok (.invokevirtual 111, 3) := by decide +kernel
theorem dX4_findRelation_39 : decode cX4_findRelation 39 = .ok (.lastore, 1) := by decide +kernel
theorem dX4_findRelation_40 : decode cX4_findRelation 40 = .ok (.aload_n 0, 1) := by decide +kernel
theorem dX4_findRelation_41 : decode cX4_findRelation 41 = .ok (.getfield 24, 3) := by decide +kernel
theorem dX4_findRelation_44 : decode cX4_findRelation 44 = .ok (.iconst 3, 1) := by decide +kernel
theorem dX4_findRelation_45 : decode cX4_findRelation 45 = .ok (.aload_n 0, 1) := by decide +kernel
theorem dX4_findRelation_46 : decode cX4_findRelation 46 = .ok (.iconst 3, 1) := by decide +kernel
theorem dX4_findRelation_47 : decode cX4_findRelation 47 = .ok (.aload_n 1, 1) := by decide +kernel
theorem dX4_findRelation_48 : decode cX4_findRelation 48 = .ok (.iconst 0, 1) := by decide +kernel
theorem dX4_findRelation_49 : decode cX4_findRelation 49 = .ok (.invokevirtual 111, 3) := by decide +kernel
theorem dX4_findRelation_52 : decode cX4_findRelation 52 = .ok (.lneg, 1) := by decide +kernel
theorem dX4_findRelation_53 : decode cX4_findRelation 53 = .ok (.lastore, 1) := by decide +kernel
theorem dX4_findRelation_54 : decode cX4_findRelation 54 = .ok (.return_, 1) := by decide +kernel
set_option maxRecDepth 20000 in
theorem ggX4_formAt_X0_combined : GoodIn wsX4_formAt wsX0_combined := goodIn_r _ [6, 7, 8, 9, 5, 10, 11, 18, 19, 20, 21, 22, 23, 24, 25] rfl (by decide +kernel)
set_option maxRecDepth 20000 in
theorem gX4_formAt_X0_combined : GoodIn wsX4_formAt (wsV RX4 115 RX0 yX0_combined wsX0_combined) := goodIn_app (goodIn_of _ (by decide +kernel)) ggX4_formAt_X0_combined
theorem dX4_formAt_0 : decode cX4_formAt 0 = .ok (.aload_n 2, 1) := by decide +kernel
theorem dX4_formAt_1 : decode cX4_formAt 1 = .ok (.aload_n 0, 1) := by decide +kernel
theorem dX4_formAt_2 : decode cX4_formAt 2 = .ok (.getfield 9, 3) := by decide +kernel
theorem dX4_formAt_5 : decode cX4_formAt 5 = .ok (.iconst 3, 1) := by decide +kernel
theorem dX4_formAt_6 : decode cX4_formAt 6 = .ok (.iload_n 1, 1) := by decide +kernel
theorem dX4_formAt_7 : decode cX4_formAt 7 = .ok (.imul, 1) := by decide +kernel
theorem dX4_formAt_8 : decode cX4_formAt 8 = .ok (.laload, 1) := by decide +kernel
theorem dX4_formAt_9 : decode cX4_formAt 9 = .ok (.aload_n 0, 1) := by decide +kernel
theorem dX4_formAt_10 : decode cX4_formAt 10 = .ok (.getfield 9, 3) := by decide +kernel
theorem dX4_formAt_13 : decode cX4_formAt 13 = .ok (.iconst 3, 1) := by decide +kernel
theorem dX4_formAt_14 : decode cX4_formAt 14 = .ok (.iload_n 1, 1) := by decide +kernel
theorem dX4_formAt_15 : decode cX4_formAt 15 = .ok (.imul, 1) := by decide +kernel
theorem dX4_formAt_16 : decode cX4_formAt 16 = .ok (.iconst 1, 1) := by decide +kernel
theorem dX4_formAt_17 : decode cX4_formAt 17 = .ok (.iadd, 1) := by decide +kernel
theorem dX4_formAt_18 : decode cX4_formAt 18 = .ok (.laload, 1) := by decide +kernel
theorem dX4_formAt_19 : decode cX4_formAt 19 = .ok (.aload_n 0, 1) := by decide +kernel
theorem dX4_formAt_20 : decode cX4_formAt 20 = .ok (.getfield 9, 3) := by decide +kernel
theorem dX4_formAt_23 : decode cX4_formAt 23 = .ok (.iconst 3, 1) := by decide +kernel
theorem dX4_formAt_24 : decode cX4_formAt 24 = .ok (.iload_n 1, 1) := by decide +kernel
theorem dX4_formAt_25 : decode cX4_formAt 25 = .ok (.imul, 1) := by decide +kernel
theorem dX4_formAt_26 : decode cX4_formAt 26 = .ok (.iconst 2, 1) := by decide +kernel
theorem dX4_formAt_27 : decode cX4_formAt 27 = .ok (.iadd, 1) := by decide +kernel
theorem dX4_formAt_28 : decode cX4_formAt 28 = .ok (.laload, 1) := by decide +kernel
theorem dX4_formAt_29 : decode cX4_formAt 29 = .ok (.iload_n 3, 1) := by decide +kernel
theorem dX4_formAt_30 : decode cX4_formAt 30 = .ok (.invokevirtual 115, 3) := by decide +kernel
theorem dX4_formAt_33 : decode cX4_formAt 33 = .ok (.lreturn, 1) := by decide +kernel
set_option maxRecDepth 20000 in
theorem ggX4_findEquation_J7_fill_d0a16 : GoodIn wsX4_findEquation wsJ7_fill_d0a16 := goodIn_r _ [8] rfl (by decide +kernel)
set_option maxRecDepth 20000 in
theorem gX4_findEquation_J7_fill_d0a16 : GoodIn wsX4_findEquation (va_wsS RX4 122 yJ7_fill_d0a16 wsJ7_fill_d0a16) := goodIn_app (goodIn_of _ (by decide +kernel)) ggX4_findEquation_J7_fill_d0a16
set_option maxRecDepth 20000 in
theorem ggX4_findEquation_X4_firstForm : GoodIn wsX4_findEquation wsX4_firstForm := goodIn_r _ [13, 14, 58, 59, 60, 61, 62, 63] rfl (by decide +kernel)
set_option maxRecDepth 20000 in
theorem gX4_findEquation_X4_firstForm : GoodIn wsX4_findEquation (wsV RX4 128 RX4 yX4_firstForm wsX4_firstForm) := goodIn_app (goodIn_of _ (by decide +kernel)) ggX4_findEquation_X4_firstForm
set_option maxRecDepth 20000 in
theorem ggX4_findEquation_X4_addProduct : GoodIn wsX4_findEquation wsX4_addProduct := goodIn_r _ [18, 14, 19, 20, 12, 21, 22, 23, 24, 25, 26, 27, 28, 29, 30, 31, 32, 33, 58, 59, 60, 61, 62, 63] rfl (by decide +kernel)
set_option maxRecDepth 20000 in
theorem gX4_findEquation_X4_addProduct : GoodIn wsX4_findEquation (wsV RX4 132 RX4 yX4_addProduct wsX4_addProduct) := goodIn_app (goodIn_of _ (by decide +kernel)) ggX4_findEquation_X4_addProduct
set_option maxRecDepth 20000 in
theorem ggX4_findEquation_X6_takeOffDivisor : GoodIn wsX4_findEquation wsX6_takeOffDivisor := goodIn_r _ [37, 38, 39, 36, 40, 41, 42, 29, 43] rfl (by decide +kernel)
set_option maxRecDepth 20000 in
theorem gX4_findEquation_X6_takeOffDivisor : GoodIn wsX4_findEquation (va_wsS RX4 82 yX6_takeOffDivisor wsX6_takeOffDivisor) := goodIn_app (goodIn_of _ (by decide +kernel)) ggX4_findEquation_X6_takeOffDivisor
set_option maxRecDepth 20000 in
theorem ggX4_findEquation_X6_first : GoodIn wsX4_findEquation wsX6_first := goodIn_r _ [46] rfl (by decide +kernel)
set_option maxRecDepth 20000 in
theorem gX4_findEquation_X6_first : GoodIn wsX4_findEquation (va_wsS RX4 88 yX6_first wsX6_first) := goodIn_app (goodIn_of _ (by decide +kernel)) ggX4_findEquation_X6_first
set_option maxRecDepth 20000 in
theorem ggX4_findEquation_X6_turn : GoodIn wsX4_findEquation wsX6_turn := goodIn_r _ [49] rfl (by decide +kernel)
set_option maxRecDepth 20000 in
theorem gX4_findEquation_X6_turn : GoodIn wsX4_findEquation (va_wsS RX4 92 yX6_turn wsX6_turn) := goodIn_app (goodIn_of _ (by decide +kernel)) ggX4_findEquation_X6_turn
theorem dX4_findEquation_0 : decode cX4_findEquation 0 = .ok (.aload_n 1, 1) := by decide +kernel
theorem dX4_findEquation_1 : decode cX4_findEquation 1 = .ok (.getfield 119, 3) := by decide +kernel
theorem dX4_findEquation_4 : decode cX4_findEquation 4 = .ok (.lconst 0, 1) := by decide +kernel
theorem dX4_findEquation_5 : decode cX4_findEquation 5 = .ok (.invokestatic 122, 3) := by decide +kernel
theorem dX4_findEquation_8 : decode cX4_findEquation 8 = .ok (.aload_n 1, 1) := by decide +kernel
theorem dX4_findEquation_9 : decode cX4_findEquation 9 = .ok (.getfield 51, 3) := by decide +kernel
theorem dX4_findEquation_12 : decode cX4_findEquation 12 = .ok (.iconst 1, 1) := by decide +kernel
theorem dX4_findEquation_13 : decode cX4_findEquation 13 = .ok (.if_icmp .ne 23, 3) := by decide +kernel
theorem dX4_findEquation_16 : decode cX4_findEquation 16 = .ok (.aload_n 0, 1) := by decide +kernel
theorem dX4_findEquation_17 : decode cX4_findEquation 17 = .ok (.aload_n 1, 1) := by decide +kernel
theorem dX4_findEquation_18 : decode cX4_findEquation 18 = .ok (.getfield 119, 3) := by decide +kernel
theorem dX4_findEquation_21 : decode cX4_findEquation 21 = .ok (.lconst 1, 1) := by decide +kernel
theorem dX4_findEquation_22 : decode cX4_findEquation 22 = .ok (.aload_n 0, 1) := by decide +kernel
theorem dX4_findEquation_23 : decode cX4_findEquation 23 = .ok (.invokevirtual 128, 3) := by decide +kernel
theorem dX4_findEquation_26 : decode cX4_findEquation 26 = .ok (.bipush 7, 2) := by decide +kernel
theorem dX4_findEquation_28 : decode cX4_findEquation 28 = .ok (.bipush 7, 2) := by decide +kernel
theorem dX4_findEquation_30 : decode cX4_findEquation 30 = .ok (.invokevirtual 132, 3) := by decide +kernel
theorem dX4_findEquation_33 : decode cX4_findEquation 33 = .ok (.goto 120, 3) := by decide +kernel
theorem dX4_findEquation_36 : decode cX4_findEquation 36 = .ok (.aload_n 1, 1) := by decide +kernel
theorem dX4_findEquation_37 : decode cX4_findEquation 37 = .ok (.getfield 51, 3) := by decide +kernel
theorem dX4_findEquation_40 : decode cX4_findEquation 40 = .ok (.iconst 2, 1) := by decide +kernel
theorem dX4_findEquation_41 : decode cX4_findEquation 41 = .ok (.if_icmp .ne 34, 3) := by decide +kernel
theorem dX4_findEquation_44 : decode cX4_findEquation 44 = .ok (.aload_n 0, 1) := by decide +kernel
theorem dX4_findEquation_45 : decode cX4_findEquation 45 = .ok (.aload_n 1, 1) := by decide +kernel
theorem dX4_findEquation_46 : decode cX4_findEquation 46 = .ok (.getfield 119, 3) := by decide +kernel
theorem dX4_findEquation_49 : decode cX4_findEquation 49 = .ok (.lconst 1, 1) := by decide +kernel
theorem dX4_findEquation_50 : decode cX4_findEquation 50 = .ok (.iconst 0, 1) := by decide +kernel
theorem dX4_findEquation_51 : decode cX4_findEquation 51 = .ok (.iconst 3, 1) := by decide +kernel
theorem dX4_findEquation_52 : decode cX4_findEquation 52 = .ok (.bipush 7, 2) := by decide +kernel
theorem dX4_findEquation_54 : decode cX4_findEquation 54 = .ok (.invokevirtual 132, 3) := by decide +kernel
theorem dX4_findEquation_57 : decode cX4_findEquation 57 = .ok (.aload_n 0, 1) := by decide +kernel
theorem dX4_findEquation_58 : decode cX4_findEquation 58 = .ok (.aload_n 1, 1) := by decide +kernel
theorem dX4_findEquation_59 : decode cX4_findEquation 59 = .ok (.getfield 119, 3) := by decide +kernel
theorem dX4_findEquation_62 : decode cX4_findEquation 62 = .ok (.ldc2_w 136, 3) := by decide +kernel
theorem dX4_findEquation_65 : decode cX4_findEquation 65 = .ok (.iconst 1, 1) := by decide +kernel
theorem dX4_findEquation_66 : decode cX4_findEquation 66 = .ok (.iconst 1, 1) := by decide +kernel
theorem dX4_findEquation_67 : decode cX4_findEquation 67 = .ok (.bipush 7, 2) := by decide +kernel
theorem dX4_findEquation_69 : decode cX4_findEquation 69 = .ok (.invokevirtual 132, 3) := by decide +kernel
theorem dX4_findEquation_72 : decode cX4_findEquation 72 = .ok (.goto 81, 3) := by decide +kernel
theorem dX4_findEquation_75 : decode cX4_findEquation 75 = .ok (.aload_n 1, 1) := by decide +kernel
theorem dX4_findEquation_76 : decode cX4_findEquation 76 = .ok (.getfield 51, 3) := by decide +kernel
theorem dX4_findEquation_79 : decode cX4_findEquation 79 = .ok (.iconst 3, 1) := by decide +kernel
theorem dX4_findEquation_80 : decode cX4_findEquation 80 = .ok (.if_icmp .ne 73, 3) := by decide +kernel
theorem dX4_findEquation_83 : decode cX4_findEquation 83 = .ok (.aload_n 0, 1) := by decide +kernel
theorem dX4_findEquation_84 : decode cX4_findEquation 84 = .ok (.aload_n 1, 1) := by decide +kernel
theorem dX4_findEquation_85 : decode cX4_findEquation 85 = .ok (.getfield 119, 3) := by decide +kernel
theorem dX4_findEquation_88 : decode cX4_findEquation 88 = .ok (.lconst 1, 1) := by decide +kernel
theorem dX4_findEquation_89 : decode cX4_findEquation 89 = .ok (.iconst 0, 1) := by decide +kernel
theorem dX4_findEquation_90 : decode cX4_findEquation 90 = .ok (.bipush 6, 2) := by decide +kernel
theorem dX4_findEquation_92 : decode cX4_findEquation 92 = .ok (.iconst 5, 1) := by decide +kernel
theorem dX4_findEquation_93 : decode cX4_findEquation 93 = .ok (.invokevirtual 132, 3) := by decide +kernel
theorem dX4_findEquation_96 : decode cX4_findEquation 96 = .ok (.aload_n 0, 1) := by decide +kernel
theorem dX4_findEquation_97 : decode cX4_findEquation 97 = .ok (.aload_n 1, 1) := by decide +kernel
theorem dX4_findEquation_98 : decode cX4_findEquation 98 = .ok (.getfield 119, 3) := by decide +kernel
theorem dX4_findEquation_101 : decode cX4_findEquation 101 = .ok (.ldc2_w 138, 3) := by decide +kernel
theorem dX4_findEquation_104 : decode cX4_findEquation 104 = .ok (.iconst 1, 1) := by decide +kernel
theorem dX4_findEquation_105 : decode cX4_findEquation 105 = .ok (.iconst 2, 1) := by decide +kernel
theorem dX4_findEquation_106 : decode cX4_findEquation 106 = .ok (.iconst 4, 1) := by decide +kernel
theorem dX4_findEquation_107 : decode cX4_findEquation 107 = .ok (.invokevirtual 132, 3) := by decide +kernel
theorem dX4_findEquation_110 : decode cX4_findEquation 110 = .ok (.aload_n 0, 1) := by decide +kernel
theorem dX4_findEquation_111 : decode cX4_findEquation 111 = .ok (.aload_n 1, 1) := by decide +kernel
theorem dX4_findEquation_112 : decode cX4_findEquation 112 = .ok (.getfield 119, 3) := by decide +kernel
theorem dX4_findEquation_115 : decode cX4_findEquation 115 = .ok (.ldc2_w 136, 3) := by decide +kernel
theorem dX4_findEquation_118 : decode cX4_findEquation 118 = .ok (.iconst 0, 1) := by decide +kernel
theorem dX4_findEquation_119 : decode cX4_findEquation 119 = .ok (.iconst 4, 1) := by decide +kernel
theorem dX4_findEquation_120 : decode cX4_findEquation 120 = .ok (.iconst 4, 1) := by decide +kernel
theorem dX4_findEquation_121 : decode cX4_findEquation 121 = .ok (.invokevirtual 132, 3) := by decide +kernel
theorem dX4_findEquation_124 : decode cX4_findEquation 124 = .ok (.aload_n 0, 1) := by decide +kernel
theorem dX4_findEquation_125 : decode cX4_findEquation 125 = .ok (.aload_n 1, 1) := by decide +kernel
theorem dX4_findEquation_126 : decode cX4_findEquation 126 = .ok (.getfield 119, 3) := by decide +kernel
theorem dX4_findEquation_129 : decode cX4_findEquation 129 = .ok (.ldc2_w 136, 3) := by decide +kernel
theorem dX4_findEquation_132 : decode cX4_findEquation 132 = .ok (.bipush 6, 2) := by decide +kernel
theorem dX4_findEquation_134 : decode cX4_findEquation 134 = .ok (.iconst 2, 1) := by decide +kernel
theorem dX4_findEquation_135 : decode cX4_findEquation 135 = .ok (.iconst 2, 1) := by decide +kernel
theorem dX4_findEquation_136 : decode cX4_findEquation 136 = .ok (.invokevirtual 132, 3) := by decide +kernel
theorem dX4_findEquation_139 : decode cX4_findEquation 139 = .ok (.aload_n 0, 1) := by decide +kernel
theorem dX4_findEquation_140 : decode cX4_findEquation 140 = .ok (.aload_n 1, 1) := by decide +kernel
theorem dX4_findEquation_141 : decode cX4_findEquation 141 = .ok (.getfield 119, 3) := by decide +kernel
theorem dX4_findEquation_144 : decode cX4_findEquation 144 = .ok (.ldc2_w 136, 3) := by decide +kernel
theorem dX4_findEquation_147 : decode cX4_findEquation 147 = .ok (.iconst 5, 1) := by decide +kernel
theorem dX4_findEquation_148 : decode cX4_findEquation 148 = .ok (.iconst 1, 1) := by decide +kernel
theorem dX4_findEquation_149 : decode cX4_findEquation 149 = .ok (.iconst 1, 1) := by decide +kernel
theorem dX4_findEquation_150 : decode cX4_findEquation 150 = .ok (.invokevirtual 132, 3) := by decide +kernel
theorem dX4_findEquation_153 : decode cX4_findEquation 153 = .ok (.aload_n 1, 1) := by decide +kernel
theorem dX4_findEquation_154 : decode cX4_findEquation 154 = .ok (.getfield 119, 3) := by decide +kernel
theorem dX4_findEquation_157 : decode cX4_findEquation 157 = .ok (.invokestatic 82, 3) := by decide +kernel
theorem dX4_findEquation_160 : decode cX4_findEquation 160 = .ok (.aload_n 1, 1) := by decide +kernel
theorem dX4_findEquation_161 : decode cX4_findEquation 161 = .ok (.getfield 119, 3) := by decide +kernel
theorem dX4_findEquation_164 : decode cX4_findEquation 164 = .ok (.aload_n 1, 1) := by decide +kernel
theorem dX4_findEquation_165 : decode cX4_findEquation 165 = .ok (.getfield 119, 3) := by decide +kernel
theorem dX4_findEquation_168 : decode cX4_findEquation 168 = .ok (.invokestatic 88, 3) := by decide +kernel
theorem dX4_findEquation_171 : decode cX4_findEquation 171 = .ok (.invokestatic 92, 3) := by decide +kernel
theorem dX4_findEquation_174 : decode cX4_findEquation 174 = .ok (.return_, 1) := by decide +kernel
theorem dX4_firstForm_0 : decode cX4_firstForm 0 = .ok (.iconst 0, 1) := by decide +kernel
theorem dX4_firstForm_1 : decode cX4_firstForm 1 = .ok (.istore_n 1, 1) := by decide +kernel
theorem dX4_firstForm_2 : decode cX4_firstForm 2 = .ok (.iload_n 1, 1) := by decide +kernel
theorem dX4_firstForm_3 : decode cX4_firstForm 3 = .ok (.iconst 5, 1) := by decide +kernel
theorem dX4_firstForm_4 : decode cX4_firstForm 4 = .ok (.if_icmp .gt 54, 3) := by decide +kernel
theorem dX4_firstForm_7 : decode cX4_firstForm 7 = .ok (.aload_n 0, 1) := by decide +kernel
theorem dX4_firstForm_8 : decode cX4_firstForm 8 = .ok (.getfield 9, 3) := by decide +kernel
theorem dX4_firstForm_11 : decode cX4_firstForm 11 = .ok (.iconst 3, 1) := by decide +kernel
theorem dX4_firstForm_12 : decode cX4_firstForm 12 = .ok (.iload_n 1, 1) := by decide +kernel
theorem dX4_firstForm_13 : decode cX4_firstForm 13 = .ok (.imul, 1) := by decide +kernel
theorem dX4_firstForm_14 : decode cX4_firstForm 14 = .ok (.laload, 1) := by decide +kernel
theorem dX4_firstForm_15 : decode cX4_firstForm 15 = .ok (.lconst 0, 1) := by decide +kernel
theorem dX4_firstForm_16 : decode cX4_firstForm 16 = .ok (.lcmp, 1) := by decide +kernel
theorem dX4_firstForm_17 : decode cX4_firstForm 17 = .ok (.ifCond .ne 33, 3) := by decide +kernel
theorem dX4_firstForm_20 : decode cX4_firstForm 20 = .ok (.aload_n 0, 1) := by decide +kernel
theorem dX4_firstForm_21 : decode cX4_firstForm 21 = .ok (.getfield 9, 3) := by decide +kernel
theorem dX4_firstForm_24 : decode cX4_firstForm 24 = .ok (.iconst 3, 1) := by decide +kernel
theorem dX4_firstForm_25 : decode cX4_firstForm 25 = .ok (.iload_n 1, 1) := by decide +kernel
theorem dX4_firstForm_26 : decode cX4_firstForm 26 = .ok (.imul, 1) := by decide +kernel
theorem dX4_firstForm_27 : decode cX4_firstForm 27 = .ok (.iconst 1, 1) := by decide +kernel
theorem dX4_firstForm_28 : decode cX4_firstForm 28 = .ok (.iadd, 1) := by decide +kernel
theorem dX4_firstForm_29 : decode cX4_firstForm 29 = .ok (.laload, 1) := by decide +kernel
theorem dX4_firstForm_30 : decode cX4_firstForm 30 = .ok (.lconst 0, 1) := by decide +kernel
theorem dX4_firstForm_31 : decode cX4_firstForm 31 = .ok (.lcmp, 1) := by decide +kernel
theorem dX4_firstForm_32 : decode cX4_firstForm 32 = .ok (.ifCond .ne 18, 3) := by decide +kernel
theorem dX4_firstForm_35 : decode cX4_firstForm 35 = .ok (.aload_n 0, 1) := by decide +kernel
theorem dX4_firstForm_36 : decode cX4_firstForm 36 = .ok (.getfield 9, 3) := by decide +kernel
theorem dX4_firstForm_39 : decode cX4_firstForm 39 = .ok (.iconst 3, 1) := by decide +kernel
theorem dX4_firstForm_40 : decode cX4_firstForm 40 = .ok (.iload_n 1, 1) := by decide +kernel
theorem dX4_firstForm_41 : decode cX4_firstForm 41 = .ok (.imul, 1) := by decide +kernel
theorem dX4_firstForm_42 : decode cX4_firstForm 42 = .ok (.iconst 2, 1) := by decide +kernel
theorem dX4_firstForm_43 : decode cX4_firstForm 43 = .ok (.iadd, 1) := by decide +kernel
theorem dX4_firstForm_44 : decode cX4_firstForm 44 = .ok (.laload, 1) := by decide +kernel
theorem dX4_firstForm_45 : decode cX4_firstForm 45 = .ok (.lconst 0, 1) := by decide +kernel
theorem dX4_firstForm_46 : decode cX4_firstForm 46 = .ok (.lcmp, 1) := by decide +kernel
theorem dX4_firstForm_47 : decode cX4_firstForm 47 = .ok (.ifCond .eq 5, 3) := by decide +kernel
theorem dX4_firstForm_50 : decode cX4_firstForm 50 = .ok (.iload_n 1, 1) := by decide +kernel
theorem dX4_firstForm_51 : decode cX4_firstForm 51 = .ok (.ireturn, 1) := by decide +kernel
theorem dX4_firstForm_52 : decode cX4_firstForm 52 = .ok (.iinc 1 1, 3) := by decide +kernel
theorem dX4_firstForm_55 : decode cX4_firstForm 55 = .ok (.goto (-53), 3) := by decide +kernel
theorem dX4_firstForm_58 : decode cX4_firstForm 58 = .ok (.bipush 7, 2) := by decide +kernel
theorem dX4_firstForm_60 : decode cX4_firstForm 60 = .ok (.ireturn, 1) := by decide +kernel
set_option maxRecDepth 20000 in
theorem ggX4_addProduct_X4_howMany : GoodIn wsX4_addProduct wsX4_howMany := goodIn_r _ [5] rfl (by decide +kernel)
set_option maxRecDepth 20000 in
theorem gX4_addProduct_X4_howMany : GoodIn wsX4_addProduct (va_wsS RX4 140 yX4_howMany wsX4_howMany) := goodIn_app (goodIn_of _ (by decide +kernel)) ggX4_addProduct_X4_howMany
set_option maxRecDepth 20000 in
theorem ggX4_addProduct_X0_placeInEquation : GoodIn wsX4_addProduct wsX0_placeInEquation := goodIn_r _ [9, 10, 11, 12, 13, 14, 15, 16, 17] rfl (by decide +kernel)
set_option maxRecDepth 20000 in
theorem gX4_addProduct_X0_placeInEquation : GoodIn wsX4_addProduct (va_wsS RX4 144 yX0_placeInEquation wsX0_placeInEquation) := goodIn_app (goodIn_of _ (by decide +kernel)) ggX4_addProduct_X0_placeInEquation
theorem dX4_addProduct_0 : decode cX4_addProduct 0 = .ok (.iconst 0, 1) := by decide +kernel
theorem dX4_addProduct_1 : decode cX4_addProduct 1 = .ok (.istore 7, 2) := by decide +kernel
theorem dX4_addProduct_3 : decode cX4_addProduct 3 = .ok (.iload 7, 2) := by decide +kernel
theorem dX4_addProduct_5 : decode cX4_addProduct 5 = .ok (.iconst 3, 1) := by decide +kernel
theorem dX4_addProduct_6 : decode cX4_addProduct 6 = .ok (.if_icmp .ge 111, 3) := by decide +kernel
theorem dX4_addProduct_9 : decode cX4_addProduct 9 = .ok (.iconst 0, 1) := by decide +kernel
theorem dX4_addProduct_10 : decode cX4_addProduct 10 = .ok (.istore 8, 2) := by decide +kernel
theorem dX4_addProduct_12 : decode cX4_addProduct 12 = .ok (.iload 8, 2) := by decide +kernel
theorem dX4_addProduct_14 : decode cX4_addProduct 14 = .ok (.iconst 3, 1) := by decide +kernel
theorem dX4_addProduct_15 : decode cX4_addProduct 15 = .ok (.if_icmp .ge 96, 3) := by decide +kernel
theorem dX4_addProduct_18 : decode cX4_addProduct 18 = .ok (.iconst 0, 1) := by decide +kernel
theorem dX4_addProduct_19 : decode cX4_addProduct 19 = .ok (.istore 9, 2) := by decide +kernel
theorem dX4_addProduct_21 : decode cX4_addProduct 21 = .ok (.iload 9, 2) := by decide +kernel
theorem dX4_addProduct_23 : decode cX4_addProduct 23 = .ok (.iconst 3, 1) := by decide +kernel
theorem dX4_addProduct_24 : decode cX4_addProduct 24 = .ok (.if_icmp .ge 81, 3) := by decide +kernel
theorem dX4_addProduct_27 : decode cX4_addProduct 27 = .ok (.iconst 0, 1) := by decide +kernel
theorem dX4_addProduct_28 : decode cX4_addProduct 28 = .ok (.iload 7, 2) := by decide +kernel
theorem dX4_addProduct_30 : decode cX4_addProduct 30 = .ok (.iload 8, 2) := by decide +kernel
theorem dX4_addProduct_32 : decode cX4_addProduct 32 = .ok (.iload 9, 2) := by decide +kernel
theorem dX4_addProduct_34 : decode cX4_addProduct 34 = .ok (.invokestatic 140, 3) := by decide +kernel
theorem dX4_addProduct_37 : decode cX4_addProduct 37 = .ok (.iconst 1, 1) := by decide +kernel
theorem dX4_addProduct_38 : decode cX4_addProduct 38 = .ok (.iload 7, 2) := by decide +kernel
theorem dX4_addProduct_40 : decode cX4_addProduct 40 = .ok (.iload 8, 2) := by decide +kernel
theorem dX4_addProduct_42 : decode cX4_addProduct 42 = .ok (.iload 9, 2) := by decide +kernel
theorem dX4_addProduct_44 : decode cX4_addProduct 44 = .ok (.invokestatic 140, 3) := by decide +kernel
theorem dX4_addProduct_47 : decode cX4_addProduct 47 = .ok (.invokestatic 144, 3) := by decide +kernel
theorem dX4_addProduct_50 : decode cX4_addProduct 50 = .ok (.istore 10, 2) := by decide +kernel
theorem dX4_addProduct_52 : decode cX4_addProduct 52 = .ok (.aload_n 1, 1) := by decide +kernel
theorem dX4_addProduct_53 : decode cX4_addProduct 53 = .ok (.iload 10, 2) := by decide +kernel
theorem dX4_addProduct_55 : decode cX4_addProduct 55 = .ok (.dup2, 1) := by decide +kernel
theorem dX4_addProduct_56 : decode cX4_addProduct 56 = .ok (.laload, 1) := by decide +kernel
theorem dX4_addProduct_57 : decode cX4_addProduct 57 = .ok (.lload_n 2, 1) := by decide +kernel
theorem dX4_addProduct_58 : decode cX4_addProduct 58 = .ok (.aload_n 0, 1) := by decide +kernel
theorem dX4_addProduct_59 : decode cX4_addProduct 59 = .ok (.getfield 9, 3) := by decide +kernel
theorem dX4_addProduct_62 : decode cX4_addProduct 62 = .ok (.iconst 3, 1) := by decide +kernel
theorem dX4_addProduct_63 : decode cX4_addProduct 63 = .ok (.iload 4, 2) := by decide +kernel
theorem dX4_addProduct_65 : decode cX4_addProduct 65 = .ok (.imul, 1) := by decide +kernel
theorem dX4_addProduct_66 : decode cX4_addProduct 66 = .ok (.iload 7, 2) := by decide +kernel
theorem dX4_addProduct_68 : decode cX4_addProduct 68 = .ok (.iadd, 1) := by decide +kernel
theorem dX4_addProduct_69 : decode cX4_addProduct 69 = .ok (.laload, 1) := by decide +kernel
theorem dX4_addProduct_70 : decode cX4_addProduct 70 = .ok (.lmul, 1) := by decide +kernel
theorem dX4_addProduct_71 : decode cX4_addProduct 71 = .ok (.aload_n 0, 1) := by decide +kernel
theorem dX4_addProduct_72 : decode cX4_addProduct 72 = .ok (.getfield 9, 3) := by decide +kernel
theorem dX4_addProduct_75 : decode cX4_addProduct 75 = .ok (.iconst 3, 1) := by decide +kernel
theorem dX4_addProduct_76 : decode cX4_addProduct 76 = .ok (.iload 5, 2) := by decide +kernel
theorem dX4_addProduct_78 : decode cX4_addProduct 78 = .ok (.imul, 1) := by decide +kernel
theorem dX4_addProduct_79 : decode cX4_addProduct 79 = .ok (.iload 8, 2) := by decide +kernel
theorem dX4_addProduct_81 : decode cX4_addProduct 81 = .ok (.iadd, 1) := by decide +kernel
theorem dX4_addProduct_82 : decode cX4_addProduct 82 = .ok (.laload, 1) := by decide +kernel
theorem dX4_addProduct_83 : decode cX4_addProduct 83 = .ok (.lmul, 1) := by decide +kernel
theorem dX4_addProduct_84 : decode cX4_addProduct 84 = .ok (.aload_n 0, 1) := by decide +kernel
theorem dX4_addProduct_85 : decode cX4_addProduct 85 = .ok (.getfield 9, 3) := by decide +kernel
theorem dX4_addProduct_88 : decode cX4_addProduct 88 = .ok (.iconst 3, 1) := by decide +kernel
theorem dX4_addProduct_89 : decode cX4_addProduct 89 = .ok (.iload 6, 2) := by decide +kernel
theorem dX4_addProduct_91 : decode cX4_addProduct 91 = .ok (.imul, 1) := by decide +kernel
theorem dX4_addProduct_92 : decode cX4_addProduct 92 = .ok (.iload 9, 2) := by decide +kernel
theorem dX4_addProduct_94 : decode cX4_addProduct 94 = .ok (.iadd, 1) := by decide +kernel
theorem dX4_addProduct_95 : decode cX4_addProduct 95 = .ok (.laload, 1) := by decide +kernel
theorem dX4_addProduct_96 : decode cX4_addProduct 96 = .ok (.lmul, 1) := by decide +kernel
theorem dX4_addProduct_97 : decode cX4_addProduct 97 = .ok (.ladd, 1) := by decide +kernel
theorem dX4_addProduct_98 : decode cX4_addProduct 98 = .ok (.lastore, 1) := by decide +kernel
theorem dX4_addProduct_99 : decode cX4_addProduct 99 = .ok (.iinc 9 1, 3) := by decide +kernel
theorem dX4_addProduct_102 : decode cX4_addProduct 102 = .ok (.goto (-81), 3) := by decide +kernel
theorem dX4_addProduct_105 : decode cX4_addProduct 105 = .ok (.iinc 8 1, 3) := by decide +kernel
theorem dX4_addProduct_108 : decode cX4_addProduct 108 = .ok (.goto (-96), 3) := by decide +kernel
theorem dX4_addProduct_111 : decode cX4_addProduct 111 = .ok (.iinc 7 1, 3) := by decide +kernel
theorem dX4_addProduct_114 : decode cX4_addProduct 114 = .ok (.goto (-111), 3) := by decide +kernel
theorem dX4_addProduct_117 : decode cX4_addProduct 117 = .ok (.return_, 1) := by decide +kernel
theorem dX4_howMany_0 : decode cX4_howMany 0 = .ok (.iload_n 1, 1) := by decide +kernel
theorem dX4_howMany_1 : decode cX4_howMany 1 = .ok (.iload_n 0, 1) := by decide +kernel
theorem dX4_howMany_2 : decode cX4_howMany 2 = .ok (.if_icmp .ne 7, 3) := by decide +kernel
theorem dX4_howMany_5 : decode cX4_howMany 5 = .ok (.iconst 1, 1) := by decide +kernel
theorem dX4_howMany_6 : decode cX4_howMany 6 = .ok (.goto 4, 3) := by decide +kernel
theorem dX4_howMany_9 : decode cX4_howMany 9 = .ok (.iconst 0, 1) := by decide +kernel
theorem dX4_howMany_10 : decode cX4_howMany 10 = .ok (.iload_n 2, 1) := by decide +kernel
theorem dX4_howMany_11 : decode cX4_howMany 11 = .ok (.iload_n 0, 1) := by decide +kernel
theorem dX4_howMany_12 : decode cX4_howMany 12 = .ok (.if_icmp .ne 7, 3) := by decide +kernel
theorem dX4_howMany_15 : decode cX4_howMany 15 = .ok (.iconst 1, 1) := by decide +kernel
theorem dX4_howMany_16 : decode cX4_howMany 16 = .ok (.goto 4, 3) := by decide +kernel
theorem dX4_howMany_19 : decode cX4_howMany 19 = .ok (.iconst 0, 1) := by decide +kernel
theorem dX4_howMany_20 : decode cX4_howMany 20 = .ok (.iadd, 1) := by decide +kernel
theorem dX4_howMany_21 : decode cX4_howMany 21 = .ok (.iload_n 3, 1) := by decide +kernel
theorem dX4_howMany_22 : decode cX4_howMany 22 = .ok (.iload_n 0, 1) := by decide +kernel
theorem dX4_howMany_23 : decode cX4_howMany 23 = .ok (.if_icmp .ne 7, 3) := by decide +kernel
theorem dX4_howMany_26 : decode cX4_howMany 26 = .ok (.iconst 1, 1) := by decide +kernel
theorem dX4_howMany_27 : decode cX4_howMany 27 = .ok (.goto 4, 3) := by decide +kernel
theorem dX4_howMany_30 : decode cX4_howMany 30 = .ok (.iconst 0, 1) := by decide +kernel
theorem dX4_howMany_31 : decode cX4_howMany 31 = .ok (.iadd, 1) := by decide +kernel
theorem dX4_howMany_32 : decode cX4_howMany 32 = .ok (.ireturn, 1) := by decide +kernel
set_option maxRecDepth 20000 in
theorem ggX4_findKnotted_X4_cross : GoodIn wsX4_findKnotted wsX4_cross := goodIn_r _ [14, 4, 1, 3, 26, 27, 28, 29, 30, 31] rfl (by decide +kernel)
set_option maxRecDepth 20000 in
theorem gX4_findKnotted_X4_cross : GoodIn wsX4_findKnotted (wsV RX4 73 RX4 yX4_cross wsX4_cross) := goodIn_app (goodIn_of _ (by decide +kernel)) ggX4_findKnotted_X4_cross
set_option maxRecDepth 20000 in
theorem ggX4_findKnotted_X6_takeOffDivisor : GoodIn wsX4_findKnotted wsX6_takeOffDivisor := goodIn_r _ [18, 19, 20, 17, 21, 22, 23, 24, 25] rfl (by decide +kernel)
set_option maxRecDepth 20000 in
theorem gX4_findKnotted_X6_takeOffDivisor : GoodIn wsX4_findKnotted (va_wsS RX4 82 yX6_takeOffDivisor wsX6_takeOffDivisor) := goodIn_app (goodIn_of _ (by decide +kernel)) ggX4_findKnotted_X6_takeOffDivisor
theorem dX4_findKnotted_0 : decode cX4_findKnotted 0 = .ok (.iconst 0, 1) := by decide +kernel
theorem dX4_findKnotted_1 : decode cX4_findKnotted 1 = .ok (.istore_n 1, 1) := by decide +kernel
theorem dX4_findKnotted_2 : decode cX4_findKnotted 2 = .ok (.iload_n 1, 1) := by decide +kernel
theorem dX4_findKnotted_3 : decode cX4_findKnotted 3 = .ok (.iconst 3, 1) := by decide +kernel
theorem dX4_findKnotted_4 : decode cX4_findKnotted 4 = .ok (.if_icmp .ge 35, 3) := by decide +kernel
theorem dX4_findKnotted_7 : decode cX4_findKnotted 7 = .ok (.aload_n 0, 1) := by decide +kernel
theorem dX4_findKnotted_8 : decode cX4_findKnotted 8 = .ok (.getfield 15, 3) := by decide +kernel
theorem dX4_findKnotted_11 : decode cX4_findKnotted 11 = .ok (.iload_n 1, 1) := by decide +kernel
theorem dX4_findKnotted_12 : decode cX4_findKnotted 12 = .ok (.aload_n 0, 1) := by decide +kernel
theorem dX4_findKnotted_13 : decode cX4_findKnotted 13 = .ok (.getfield 24, 3) := by decide +kernel
theorem dX4_findKnotted_16 : decode cX4_findKnotted 16 = .ok (.iload_n 1, 1) := by decide +kernel
theorem dX4_findKnotted_17 : decode cX4_findKnotted 17 = .ok (.laload, 1) := by decide +kernel
theorem dX4_findKnotted_18 : decode cX4_findKnotted 18 = .ok (.lastore, 1) := by decide +kernel
theorem dX4_findKnotted_19 : decode cX4_findKnotted 19 = .ok (.aload_n 0, 1) := by decide +kernel
theorem dX4_findKnotted_20 : decode cX4_findKnotted 20 = .ok (.getfield 18, 3) := by decide +kernel
theorem dX4_findKnotted_23 : decode cX4_findKnotted 23 = .ok (.iload_n 1, 1) := by decide +kernel
theorem dX4_findKnotted_24 : decode cX4_findKnotted 24 = .ok (.aload_n 0, 1) := by decide +kernel
theorem dX4_findKnotted_25 : decode cX4_findKnotted 25 = .ok (.getfield 24, 3) := by decide +kernel
theorem dX4_findKnotted_28 : decode cX4_findKnotted 28 = .ok (.iload_n 1, 1) := by decide +kernel
theorem dX4_findKnotted_29 : decode cX4_findKnotted 29 = .ok (.iconst 1, 1) := by decide +kernel
theorem dX4_findKnotted_30 : decode cX4_findKnotted 30 = .ok (.iadd, 1) := by decide +kernel
theorem dX4_findKnotted_31 : decode cX4_findKnotted 31 = .ok (.laload, 1) := by decide +kernel
theorem dX4_findKnotted_32 : decode cX4_findKnotted 32 = .ok (.lastore, 1) := by decide +kernel
theorem dX4_findKnotted_33 : decode cX4_findKnotted 33 = .ok (.iinc 1 1, 3) := by decide +kernel
theorem dX4_findKnotted_36 : decode cX4_findKnotted 36 = .ok (.goto (-34), 3) := by decide +kernel
theorem dX4_findKnotted_39 : decode cX4_findKnotted 39 = .ok (.aload_n 0, 1) := by decide +kernel
theorem dX4_findKnotted_40 : decode cX4_findKnotted 40 = .ok (.invokevirtual 73, 3) := by decide +kernel
theorem dX4_findKnotted_43 : decode cX4_findKnotted 43 = .ok (.aload_n 0, 1) := by decide +kernel
theorem dX4_findKnotted_44 : decode cX4_findKnotted 44 = .ok (.getfield 21, 3) := by decide +kernel
theorem dX4_findKnotted_47 : decode cX4_findKnotted 47 = .ok (.iconst 0, 1) := by decide +kernel
theorem dX4_findKnotted_48 : decode cX4_findKnotted 48 = .ok (.aload_n 0, 1) := by decide +kernel
theorem dX4_findKnotted_49 : decode cX4_findKnotted 49 = .ok (.getfield 27, 3) := by decide +kernel
theorem dX4_findKnotted_52 : decode cX4_findKnotted 52 = .ok (.iconst 0, 1) := by decide +kernel
theorem dX4_findKnotted_53 : decode cX4_findKnotted 53 = .ok (.iconst 3, 1) := by decide +kernel
theorem dX4_findKnotted_54 : decode cX4_findKnotted 54 = .ok (.invokestatic 76, 3) := by decide +kernel
theorem dX4_findKnotted_57 : decode cX4_findKnotted 57 = .ok (.aload_n 0, 1) := by decide +kernel
theorem dX4_findKnotted_58 : decode cX4_findKnotted 58 = .ok (.getfield 27, 3) := by decide +kernel
theorem dX4_findKnotted_61 : decode cX4_findKnotted 61 = .ok (.invokestatic 82, 3) := by decide +kernel
theorem dX4_findKnotted_64 : decode cX4_findKnotted 64 = .ok (.return_, 1) := by decide +kernel
set_option maxRecDepth 20000 in
theorem ggX4_findLaw_X6_first : GoodIn wsX4_findLaw wsX6_first := goodIn_r _ [11] rfl (by decide +kernel)
set_option maxRecDepth 20000 in
theorem gX4_findLaw_X6_first : GoodIn wsX4_findLaw (va_wsS RX4 88 yX6_first wsX6_first) := goodIn_app (goodIn_of _ (by decide +kernel)) ggX4_findLaw_X6_first
set_option maxRecDepth 20000 in
theorem ggX4_findLaw_J7_fill_d0a16 : GoodIn wsX4_findLaw wsJ7_fill_d0a16 := goodIn_r _ [15] rfl (by decide +kernel)
set_option maxRecDepth 20000 in
theorem gX4_findLaw_J7_fill_d0a16 : GoodIn wsX4_findLaw (va_wsS RX4 122 yJ7_fill_d0a16 wsJ7_fill_d0a16) := goodIn_app (goodIn_of _ (by decide +kernel)) ggX4_findLaw_J7_fill_d0a16
set_option maxRecDepth 20000 in
theorem ggX4_findLaw_X4_addToLaw : GoodIn wsX4_findLaw wsX4_addToLaw := goodIn_r _ [20, 7, 21, 22, 23, 24, 19, 25, 26, 27, 28, 29, 30, 31, 32, 33, 34, 35, 36, 37, 38, 39, 40, 41, 42, 43, 44, 45, 46, 47, 66, 67, 68, 69, 70, 71, 72, 73, 60, 61, 62, 63, 64, 65] rfl (by decide +kernel)
set_option maxRecDepth 20000 in
theorem gX4_findLaw_X4_addToLaw : GoodIn wsX4_findLaw (wsV RX4 159 RX4 yX4_addToLaw wsX4_addToLaw) := goodIn_app (goodIn_of _ (by decide +kernel)) ggX4_findLaw_X4_addToLaw
set_option maxRecDepth 20000 in
theorem ggX4_findLaw_X6_takeOffDivisor : GoodIn wsX4_findLaw wsX6_takeOffDivisor := goodIn_r _ [50, 51, 52, 10, 53, 54, 55, 4, 56] rfl (by decide +kernel)
set_option maxRecDepth 20000 in
theorem gX4_findLaw_X6_takeOffDivisor : GoodIn wsX4_findLaw (va_wsS RX4 82 yX6_takeOffDivisor wsX6_takeOffDivisor) := goodIn_app (goodIn_of _ (by decide +kernel)) ggX4_findLaw_X6_takeOffDivisor
set_option maxRecDepth 20000 in
theorem ggX4_findLaw_X6_turn : GoodIn wsX4_findLaw wsX6_turn := goodIn_r _ [59] rfl (by decide +kernel)
set_option maxRecDepth 20000 in
theorem gX4_findLaw_X6_turn : GoodIn wsX4_findLaw (va_wsS RX4 92 yX6_turn wsX6_turn) := goodIn_app (goodIn_of _ (by decide +kernel)) ggX4_findLaw_X6_turn
theorem dX4_findLaw_0 : decode cX4_findLaw 0 = .ok (.aload_n 0, 1) := by decide +kernel
theorem dX4_findLaw_1 : decode cX4_findLaw 1 = .ok (.getfield 24, 3) := by decide +kernel
theorem dX4_findLaw_4 : decode cX4_findLaw 4 = .ok (.invokestatic 88, 3) := by decide +kernel
theorem dX4_findLaw_7 : decode cX4_findLaw 7 = .ok (.iconst 0, 1) := by decide +kernel
theorem dX4_findLaw_8 : decode cX4_findLaw 8 = .ok (.invokestatic 148, 3) := by decide +kernel
theorem dX4_findLaw_11 : decode cX4_findLaw 11 = .ok (.istore_n 2, 1) := by decide +kernel
theorem dX4_findLaw_12 : decode cX4_findLaw 12 = .ok (.getstatic 153, 3) := by decide +kernel
theorem dX4_findLaw_15 : decode cX4_findLaw 15 = .ok (.iconst 3, 1) := by decide +kernel
theorem dX4_findLaw_16 : decode cX4_findLaw 16 = .ok (.iload_n 2, 1) := by decide +kernel
theorem dX4_findLaw_17 : decode cX4_findLaw 17 = .ok (.imul, 1) := by decide +kernel
theorem dX4_findLaw_18 : decode cX4_findLaw 18 = .ok (.iaload, 1) := by decide +kernel
theorem dX4_findLaw_19 : decode cX4_findLaw 19 = .ok (.istore_n 3, 1) := by decide +kernel
theorem dX4_findLaw_20 : decode cX4_findLaw 20 = .ok (.getstatic 153, 3) := by decide +kernel
theorem dX4_findLaw_23 : decode cX4_findLaw 23 = .ok (.iconst 3, 1) := by decide +kernel
theorem dX4_findLaw_24 : decode cX4_findLaw 24 = .ok (.iload_n 2, 1) := by decide +kernel
theorem dX4_findLaw_25 : decode cX4_findLaw 25 = .ok (.imul, 1) := by decide +kernel
theorem dX4_findLaw_26 : decode cX4_findLaw 26 = .ok (.iconst 1, 1) := by decide +kernel
theorem dX4_findLaw_27 : decode cX4_findLaw 27 = .ok (.iadd, 1) := by decide +kernel
theorem dX4_findLaw_28 : decode cX4_findLaw 28 = .ok (.iaload, 1) := by decide +kernel
theorem dX4_findLaw_29 : decode cX4_findLaw 29 = .ok (.istore 4, 2) := by decide +kernel
theorem dX4_findLaw_31 : decode cX4_findLaw 31 = .ok (.getstatic 153, 3) := by decide +kernel
theorem dX4_findLaw_34 : decode cX4_findLaw 34 = .ok (.iconst 3, 1) := by decide +kernel
theorem dX4_findLaw_35 : decode cX4_findLaw 35 = .ok (.iload_n 2, 1) := by decide +kernel
theorem dX4_findLaw_36 : decode cX4_findLaw 36 = .ok (.imul, 1) := by decide +kernel
theorem dX4_findLaw_37 : decode cX4_findLaw 37 = .ok (.iconst 2, 1) := by decide +kernel
theorem dX4_findLaw_38 : decode cX4_findLaw 38 = .ok (.iadd, 1) := by decide +kernel
theorem dX4_findLaw_39 : decode cX4_findLaw 39 = .ok (.iaload, 1) := by decide +kernel
theorem dX4_findLaw_40 : decode cX4_findLaw 40 = .ok (.istore 5, 2) := by decide +kernel
theorem dX4_findLaw_42 : decode cX4_findLaw 42 = .ok (.aload_n 1, 1) := by decide +kernel
theorem dX4_findLaw_43 : decode cX4_findLaw 43 = .ok (.getfield 156, 3) := by decide +kernel
theorem dX4_findLaw_46 : decode cX4_findLaw 46 = .ok (.lconst 0, 1) := by decide +kernel
theorem dX4_findLaw_47 : decode cX4_findLaw 47 = .ok (.invokestatic 122, 3) := by decide +kernel
theorem dX4_findLaw_50 : decode cX4_findLaw 50 = .ok (.aload_n 0, 1) := by decide +kernel
theorem dX4_findLaw_51 : decode cX4_findLaw 51 = .ok (.aload_n 1, 1) := by decide +kernel
theorem dX4_findLaw_52 : decode cX4_findLaw 52 = .ok (.iload_n 3, 1) := by decide +kernel
theorem dX4_findLaw_53 : decode cX4_findLaw 53 = .ok (.iload 4, 2) := by decide +kernel
theorem dX4_findLaw_55 : decode cX4_findLaw 55 = .ok (.iload 5, 2) := by decide +kernel
theorem dX4_findLaw_57 : decode cX4_findLaw 57 = .ok (.invokevirtual 159, 3) := by decide +kernel
theorem dX4_findLaw_60 : decode cX4_findLaw 60 = .ok (.aload_n 0, 1) := by decide +kernel
theorem dX4_findLaw_61 : decode cX4_findLaw 61 = .ok (.aload_n 1, 1) := by decide +kernel
theorem dX4_findLaw_62 : decode cX4_findLaw 62 = .ok (.iload 4, 2) := by decide +kernel
theorem dX4_findLaw_64 : decode cX4_findLaw 64 = .ok (.iload 5, 2) := by decide +kernel
theorem dX4_findLaw_66 : decode cX4_findLaw 66 = .ok (.iload_n 3, 1) := by decide +kernel
theorem dX4_findLaw_67 : decode cX4_findLaw 67 = .ok (.invokevirtual 159, 3) := by decide +kernel
theorem dX4_findLaw_70 : decode cX4_findLaw 70 = .ok (.aload_n 0, 1) := by decide +kernel
theorem dX4_findLaw_71 : decode cX4_findLaw 71 = .ok (.aload_n 1, 1) := by decide +kernel
theorem dX4_findLaw_72 : decode cX4_findLaw 72 = .ok (.iload 5, 2) := by decide +kernel
theorem dX4_findLaw_74 : decode cX4_findLaw 74 = .ok (.iload_n 3, 1) := by decide +kernel
theorem dX4_findLaw_75 : decode cX4_findLaw 75 = .ok (.iload 4, 2) := by decide +kernel
theorem dX4_findLaw_77 : decode cX4_findLaw 77 = .ok (.invokevirtual 159, 3) := by decide +kernel
theorem dX4_findLaw_80 : decode cX4_findLaw 80 = .ok (.aload_n 1, 1) := by decide +kernel
theorem dX4_findLaw_81 : decode cX4_findLaw 81 = .ok (.getfield 156, 3) := by decide +kernel
theorem dX4_findLaw_84 : decode cX4_findLaw 84 = .ok (.invokestatic 82, 3) := by decide +kernel
theorem dX4_findLaw_87 : decode cX4_findLaw 87 = .ok (.aload_n 1, 1) := by decide +kernel
theorem dX4_findLaw_88 : decode cX4_findLaw 88 = .ok (.getfield 156, 3) := by decide +kernel
theorem dX4_findLaw_91 : decode cX4_findLaw 91 = .ok (.aload_n 1, 1) := by decide +kernel
theorem dX4_findLaw_92 : decode cX4_findLaw 92 = .ok (.getfield 156, 3) := by decide +kernel
theorem dX4_findLaw_95 : decode cX4_findLaw 95 = .ok (.invokestatic 88, 3) := by decide +kernel
theorem dX4_findLaw_98 : decode cX4_findLaw 98 = .ok (.invokestatic 92, 3) := by decide +kernel
theorem dX4_findLaw_101 : decode cX4_findLaw 101 = .ok (.return_, 1) := by decide +kernel
set_option maxRecDepth 20000 in
theorem ggX4_addToLaw_X4_findForm : GoodIn wsX4_addToLaw wsX4_findForm := goodIn_r _ [7, 8, 9, 10, 2, 11, 12, 13, 14, 15, 16, 17, 18, 19, 20, 21, 22, 23, 6, 24, 38, 39, 40, 41, 42, 43, 30, 31, 32, 33, 34, 35, 36, 37] rfl (by decide +kernel)
set_option maxRecDepth 20000 in
theorem gX4_addToLaw_X4_findForm : GoodIn wsX4_addToLaw (wsV RX4 107 RX4 yX4_findForm wsX4_findForm) := goodIn_app (goodIn_of _ (by decide +kernel)) ggX4_addToLaw_X4_findForm
set_option maxRecDepth 20000 in
theorem ggX4_addToLaw_X4_knottedNumber : GoodIn wsX4_addToLaw wsX4_knottedNumber := goodIn_r _ [28, 29, 38, 39, 40, 41, 42, 43] rfl (by decide +kernel)
set_option maxRecDepth 20000 in
theorem gX4_addToLaw_X4_knottedNumber : GoodIn wsX4_addToLaw (wsV RX4 162 RX4 yX4_knottedNumber wsX4_knottedNumber) := goodIn_app (goodIn_of _ (by decide +kernel)) ggX4_addToLaw_X4_knottedNumber
theorem dX4_addToLaw_0 : decode cX4_addToLaw 0 = .ok (.aload_n 0, 1) := by decide +kernel
theorem dX4_addToLaw_1 : decode cX4_addToLaw 1 = .ok (.aload_n 1, 1) := by decide +kernel
theorem dX4_addToLaw_2 : decode cX4_addToLaw 2 = .ok (.iconst 0, 1) := by decide +kernel
theorem dX4_addToLaw_3 : decode cX4_addToLaw 3 = .ok (.iload_n 3, 1) := by decide +kernel
theorem dX4_addToLaw_4 : decode cX4_addToLaw 4 = .ok (.iload 4, 2) := by decide +kernel
theorem dX4_addToLaw_6 : decode cX4_addToLaw 6 = .ok (.invokevirtual 107, 3) := by decide +kernel
theorem dX4_addToLaw_9 : decode cX4_addToLaw 9 = .ok (.iconst 0, 1) := by decide +kernel
theorem dX4_addToLaw_10 : decode cX4_addToLaw 10 = .ok (.istore 5, 2) := by decide +kernel
theorem dX4_addToLaw_12 : decode cX4_addToLaw 12 = .ok (.iload 5, 2) := by decide +kernel
theorem dX4_addToLaw_14 : decode cX4_addToLaw 14 = .ok (.iconst 3, 1) := by decide +kernel
theorem dX4_addToLaw_15 : decode cX4_addToLaw 15 = .ok (.if_icmp .ge 63, 3) := by decide +kernel
theorem dX4_addToLaw_18 : decode cX4_addToLaw 18 = .ok (.aload_n 1, 1) := by decide +kernel
theorem dX4_addToLaw_19 : decode cX4_addToLaw 19 = .ok (.getfield 156, 3) := by decide +kernel
theorem dX4_addToLaw_22 : decode cX4_addToLaw 22 = .ok (.iconst 2, 1) := by decide +kernel
theorem dX4_addToLaw_23 : decode cX4_addToLaw 23 = .ok (.iload 5, 2) := by decide +kernel
theorem dX4_addToLaw_25 : decode cX4_addToLaw 25 = .ok (.imul, 1) := by decide +kernel
theorem dX4_addToLaw_26 : decode cX4_addToLaw 26 = .ok (.dup2, 1) := by decide +kernel
theorem dX4_addToLaw_27 : decode cX4_addToLaw 27 = .ok (.laload, 1) := by decide +kernel
theorem dX4_addToLaw_28 : decode cX4_addToLaw 28 = .ok (.aload_n 0, 1) := by decide +kernel
theorem dX4_addToLaw_29 : decode cX4_addToLaw 29 = .ok (.iload_n 2, 1) := by decide +kernel
theorem dX4_addToLaw_30 : decode cX4_addToLaw 30 = .ok (.invokevirtual 162, 3) := by decide +kernel
theorem dX4_addToLaw_33 : decode cX4_addToLaw 33 = .ok (.aload_n 0, 1) := by decide +kernel
theorem dX4_addToLaw_34 : decode cX4_addToLaw 34 = .ok (.getfield 9, 3) := by decide +kernel
theorem dX4_addToLaw_37 : decode cX4_addToLaw 37 = .ok (.iload 5, 2) := by decide +kernel
theorem dX4_addToLaw_39 : decode cX4_addToLaw 39 = .ok (.laload, 1) := by decide +kernel
theorem dX4_addToLaw_40 : decode cX4_addToLaw 40 = .ok (.lmul, 1) := by decide +kernel
theorem dX4_addToLaw_41 : decode cX4_addToLaw 41 = .ok (.ladd, 1) := by decide +kernel
theorem dX4_addToLaw_42 : decode cX4_addToLaw 42 = .ok (.lastore, 1) := by decide +kernel
theorem dX4_addToLaw_43 : decode cX4_addToLaw 43 = .ok (.aload_n 1, 1) := by decide +kernel
theorem dX4_addToLaw_44 : decode cX4_addToLaw 44 = .ok (.getfield 156, 3) := by decide +kernel
theorem dX4_addToLaw_47 : decode cX4_addToLaw 47 = .ok (.iconst 2, 1) := by decide +kernel
theorem dX4_addToLaw_48 : decode cX4_addToLaw 48 = .ok (.iload 5, 2) := by decide +kernel
theorem dX4_addToLaw_50 : decode cX4_addToLaw 50 = .ok (.imul, 1) := by decide +kernel
theorem dX4_addToLaw_51 : decode cX4_addToLaw 51 = .ok (.iconst 1, 1) := by decide +kernel
theorem dX4_addToLaw_52 : decode cX4_addToLaw 52 = .ok (.iadd, 1) := by decide +kernel
theorem dX4_addToLaw_53 : decode cX4_addToLaw 53 = .ok (.dup2, 1) := by decide +kernel
theorem dX4_addToLaw_54 : decode cX4_addToLaw 54 = .ok (.laload, 1) := by decide +kernel
theorem dX4_addToLaw_55 : decode cX4_addToLaw 55 = .ok (.aload_n 0, 1) := by decide +kernel
theorem dX4_addToLaw_56 : decode cX4_addToLaw 56 = .ok (.iload_n 2, 1) := by decide +kernel
theorem dX4_addToLaw_57 : decode cX4_addToLaw 57 = .ok (.iconst 1, 1) := by decide +kernel
theorem dX4_addToLaw_58 : decode cX4_addToLaw 58 = .ok (.isub, 1) := by decide +kernel
theorem dX4_addToLaw_59 : decode cX4_addToLaw 59 = .ok (.invokevirtual 162, 3) := by decide +kernel
theorem dX4_addToLaw_62 : decode cX4_addToLaw 62 = .ok (.aload_n 0, 1) := by decide +kernel
theorem dX4_addToLaw_63 : decode cX4_addToLaw 63 = .ok (.getfield 9, 3) := by decide +kernel
theorem dX4_addToLaw_66 : decode cX4_addToLaw 66 = .ok (.iload 5, 2) := by decide +kernel
theorem dX4_addToLaw_68 : decode cX4_addToLaw 68 = .ok (.laload, 1) := by decide +kernel
theorem dX4_addToLaw_69 : decode cX4_addToLaw 69 = .ok (.lmul, 1) := by decide +kernel
theorem dX4_addToLaw_70 : decode cX4_addToLaw 70 = .ok (.lsub, 1) := by decide +kernel
theorem dX4_addToLaw_71 : decode cX4_addToLaw 71 = .ok (.lastore, 1) := by decide +kernel
theorem dX4_addToLaw_72 : decode cX4_addToLaw 72 = .ok (.iinc 5 1, 3) := by decide +kernel
theorem dX4_addToLaw_75 : decode cX4_addToLaw 75 = .ok (.goto (-63), 3) := by decide +kernel
theorem dX4_addToLaw_78 : decode cX4_addToLaw 78 = .ok (.return_, 1) := by decide +kernel
theorem dX4_knottedNumber_0 : decode cX4_knottedNumber 0 = .ok (.iload_n 1, 1) := by decide +kernel
theorem dX4_knottedNumber_1 : decode cX4_knottedNumber 1 = .ok (.ifCond .lt 8, 3) := by decide +kernel
theorem dX4_knottedNumber_4 : decode cX4_knottedNumber 4 = .ok (.iload_n 1, 1) := by decide +kernel
theorem dX4_knottedNumber_5 : decode cX4_knottedNumber 5 = .ok (.iconst 2, 1) := by decide +kernel
theorem dX4_knottedNumber_6 : decode cX4_knottedNumber 6 = .ok (.if_icmp .le 7, 3) := by decide +kernel
theorem dX4_knottedNumber_9 : decode cX4_knottedNumber 9 = .ok (.lconst 0, 1) := by decide +kernel
theorem dX4_knottedNumber_10 : decode cX4_knottedNumber 10 = .ok (.goto 9, 3) := by decide +kernel
theorem dX4_knottedNumber_13 : decode cX4_knottedNumber 13 = .ok (.aload_n 0, 1) := by decide +kernel
theorem dX4_knottedNumber_14 : decode cX4_knottedNumber 14 = .ok (.getfield 27, 3) := by decide +kernel
theorem dX4_knottedNumber_17 : decode cX4_knottedNumber 17 = .ok (.iload_n 1, 1) := by decide +kernel
theorem dX4_knottedNumber_18 : decode cX4_knottedNumber 18 = .ok (.laload, 1) := by decide +kernel
theorem dX4_knottedNumber_19 : decode cX4_knottedNumber 19 = .ok (.lreturn, 1) := by decide +kernel
set_option maxRecDepth 20000 in
theorem ggX4_findKnot_X4_cross : GoodIn wsX4_findKnot wsX4_cross := goodIn_r _ [17, 4, 1, 3, 39, 40, 41, 42, 43, 44] rfl (by decide +kernel)
set_option maxRecDepth 20000 in
theorem gX4_findKnot_X4_cross : GoodIn wsX4_findKnot (wsV RX4 73 RX4 yX4_cross wsX4_cross) := goodIn_app (goodIn_of _ (by decide +kernel)) ggX4_findKnot_X4_cross
set_option maxRecDepth 20000 in
theorem ggX4_findKnot_X6_takeOffDivisor : GoodIn wsX4_findKnot wsX6_takeOffDivisor := goodIn_r _ [21, 22, 23, 20, 24, 25, 26, 27, 28] rfl (by decide +kernel)
set_option maxRecDepth 20000 in
theorem gX4_findKnot_X6_takeOffDivisor : GoodIn wsX4_findKnot (va_wsS RX4 82 yX6_takeOffDivisor wsX6_takeOffDivisor) := goodIn_app (goodIn_of _ (by decide +kernel)) ggX4_findKnot_X6_takeOffDivisor
set_option maxRecDepth 20000 in
theorem ggX4_findKnot_X6_last : GoodIn wsX4_findKnot wsX6_last := goodIn_r _ [31] rfl (by decide +kernel)
set_option maxRecDepth 20000 in
theorem gX4_findKnot_X6_last : GoodIn wsX4_findKnot (va_wsS RX4 169 yX6_last wsX6_last) := goodIn_app (goodIn_of _ (by decide +kernel)) ggX4_findKnot_X6_last
set_option maxRecDepth 20000 in
theorem ggX4_findKnot_X6_turn : GoodIn wsX4_findKnot wsX6_turn := goodIn_r _ [34] rfl (by decide +kernel)
set_option maxRecDepth 20000 in
theorem gX4_findKnot_X6_turn : GoodIn wsX4_findKnot (va_wsS RX4 92 yX6_turn wsX6_turn) := goodIn_app (goodIn_of _ (by decide +kernel)) ggX4_findKnot_X6_turn
set_option maxRecDepth 20000 in
theorem ggX4_findKnot_J13_signum_95d88 : GoodIn wsX4_findKnot wsJ13_signum_95d88 := goodIn_r _ [38] rfl (by decide +kernel)
set_option maxRecDepth 20000 in
theorem gX4_findKnot_J13_signum_95d88 : GoodIn wsX4_findKnot (va_wsS RX4 174 yJ13_signum_95d88 wsJ13_signum_95d88) := goodIn_app (goodIn_of _ (by decide +kernel)) ggX4_findKnot_J13_signum_95d88
theorem dX4_findKnot_0 : decode cX4_findKnot 0 = .ok (.iconst 0, 1) := by decide +kernel
theorem dX4_findKnot_1 : decode cX4_findKnot 1 = .ok (.istore_n 2, 1) := by decide +kernel
theorem dX4_findKnot_2 : decode cX4_findKnot 2 = .ok (.iload_n 2, 1) := by decide +kernel
theorem dX4_findKnot_3 : decode cX4_findKnot 3 = .ok (.iconst 3, 1) := by decide +kernel
theorem dX4_findKnot_4 : decode cX4_findKnot 4 = .ok (.if_icmp .ge 39, 3) := by decide +kernel
theorem dX4_findKnot_7 : decode cX4_findKnot 7 = .ok (.aload_n 0, 1) := by decide +kernel
theorem dX4_findKnot_8 : decode cX4_findKnot 8 = .ok (.getfield 15, 3) := by decide +kernel
theorem dX4_findKnot_11 : decode cX4_findKnot 11 = .ok (.iload_n 2, 1) := by decide +kernel
theorem dX4_findKnot_12 : decode cX4_findKnot 12 = .ok (.aload_n 1, 1) := by decide +kernel
theorem dX4_findKnot_13 : decode cX4_findKnot 13 = .ok (.getfield 156, 3) := by decide +kernel
theorem dX4_findKnot_16 : decode cX4_findKnot 16 = .ok (.iconst 2, 1) := by decide +kernel
theorem dX4_findKnot_17 : decode cX4_findKnot 17 = .ok (.iload_n 2, 1) := by decide +kernel
theorem dX4_findKnot_18 : decode cX4_findKnot 18 = .ok (.imul, 1) := by decide +kernel
theorem dX4_findKnot_19 : decode cX4_findKnot 19 = .ok (.laload, 1) := by decide +kernel
theorem dX4_findKnot_20 : decode cX4_findKnot 20 = .ok (.lastore, 1) := by decide +kernel
theorem dX4_findKnot_21 : decode cX4_findKnot 21 = .ok (.aload_n 0, 1) := by decide +kernel
theorem dX4_findKnot_22 : decode cX4_findKnot 22 = .ok (.getfield 18, 3) := by decide +kernel
theorem dX4_findKnot_25 : decode cX4_findKnot 25 = .ok (.iload_n 2, 1) := by decide +kernel
theorem dX4_findKnot_26 : decode cX4_findKnot 26 = .ok (.aload_n 1, 1) := by decide +kernel
theorem dX4_findKnot_27 : decode cX4_findKnot 27 = .ok (.getfield 156, 3) := by decide +kernel
theorem dX4_findKnot_30 : decode cX4_findKnot 30 = .ok (.iconst 2, 1) := by decide +kernel
theorem dX4_findKnot_31 : decode cX4_findKnot 31 = .ok (.iload_n 2, 1) := by decide +kernel
theorem dX4_findKnot_32 : decode cX4_findKnot 32 = .ok (.imul, 1) := by decide +kernel
theorem dX4_findKnot_33 : decode cX4_findKnot 33 = .ok (.iconst 1, 1) := by decide +kernel
theorem dX4_findKnot_34 : decode cX4_findKnot 34 = .ok (.iadd, 1) := by decide +kernel
theorem dX4_findKnot_35 : decode cX4_findKnot 35 = .ok (.laload, 1) := by decide +kernel
theorem dX4_findKnot_36 : decode cX4_findKnot 36 = .ok (.lastore, 1) := by decide +kernel
theorem dX4_findKnot_37 : decode cX4_findKnot 37 = .ok (.iinc 2 1, 3) := by decide +kernel
theorem dX4_findKnot_40 : decode cX4_findKnot 40 = .ok (.goto (-38), 3) := by decide +kernel
theorem dX4_findKnot_43 : decode cX4_findKnot 43 = .ok (.aload_n 0, 1) := by decide +kernel
theorem dX4_findKnot_44 : decode cX4_findKnot 44 = .ok (.invokevirtual 73, 3) := by decide +kernel
theorem dX4_findKnot_47 : decode cX4_findKnot 47 = .ok (.aload_n 0, 1) := by decide +kernel
theorem dX4_findKnot_48 : decode cX4_findKnot 48 = .ok (.getfield 21, 3) := by decide +kernel
theorem dX4_findKnot_51 : decode cX4_findKnot 51 = .ok (.iconst 0, 1) := by decide +kernel
theorem dX4_findKnot_52 : decode cX4_findKnot 52 = .ok (.aload_n 1, 1) := by decide +kernel
theorem dX4_findKnot_53 : decode cX4_findKnot 53 = .ok (.getfield 166, 3) := by decide +kernel
theorem dX4_findKnot_56 : decode cX4_findKnot 56 = .ok (.iconst 0, 1) := by decide +kernel
theorem dX4_findKnot_57 : decode cX4_findKnot 57 = .ok (.iconst 3, 1) := by decide +kernel
theorem dX4_findKnot_58 : decode cX4_findKnot 58 = .ok (.invokestatic 76, 3) := by decide +kernel
theorem dX4_findKnot_61 : decode cX4_findKnot 61 = .ok (.aload_n 1, 1) := by decide +kernel
theorem dX4_findKnot_62 : decode cX4_findKnot 62 = .ok (.getfield 166, 3) := by decide +kernel
theorem dX4_findKnot_65 : decode cX4_findKnot 65 = .ok (.invokestatic 82, 3) := by decide +kernel
theorem dX4_findKnot_68 : decode cX4_findKnot 68 = .ok (.aload_n 1, 1) := by decide +kernel
theorem dX4_findKnot_69 : decode cX4_findKnot 69 = .ok (.getfield 166, 3) := by decide +kernel
theorem dX4_findKnot_72 : decode cX4_findKnot 72 = .ok (.aload_n 1, 1) := by decide +kernel
theorem dX4_findKnot_73 : decode cX4_findKnot 73 = .ok (.getfield 166, 3) := by decide +kernel
theorem dX4_findKnot_76 : decode cX4_findKnot 76 = .ok (.invokestatic 169, 3) := by decide +kernel
theorem dX4_findKnot_79 : decode cX4_findKnot 79 = .ok (.invokestatic 92, 3) := by decide +kernel
theorem dX4_findKnot_82 : decode cX4_findKnot 82 = .ok (.aload_n 1, 1) := by decide +kernel
theorem dX4_findKnot_83 : decode cX4_findKnot 83 = .ok (.iconst 1, 1) := by decide +kernel
theorem dX4_findKnot_84 : decode cX4_findKnot 84 = .ok (.aload_n 0, 1) := by decide +kernel
theorem dX4_findKnot_85 : decode cX4_findKnot 85 = .ok (.getfield 27, 3) := by decide +kernel
theorem dX4_findKnot_88 : decode cX4_findKnot 88 = .ok (.iconst 1, 1) := by decide +kernel
theorem dX4_findKnot_89 : decode cX4_findKnot 89 = .ok (.laload, 1) := by decide +kernel
theorem dX4_findKnot_90 : decode cX4_findKnot 90 = .ok (.aload_n 0, 1) := by decide +kernel
theorem dX4_findKnot_91 : decode cX4_findKnot 91 = .ok (.getfield 27, 3) := by decide +kernel
theorem dX4_findKnot_94 : decode cX4_findKnot 94 = .ok (.iconst 1, 1) := by decide +kernel
theorem dX4_findKnot_95 : decode cX4_findKnot 95 = .ok (.laload, 1) := by decide +kernel
theorem dX4_findKnot_96 : decode cX4_findKnot 96 = .ok (.lmul, 1) := by decide +kernel
theorem dX4_findKnot_97 : decode cX4_findKnot 97 = .ok (.ldc2_w 172, 3) := by decide +kernel
theorem dX4_findKnot_100 : decode cX4_findKnot 100 = .ok (.aload_n 0, 1) := by decide +kernel
theorem dX4_findKnot_101 : decode cX4_findKnot 101 = .ok (.getfield 27, 3) := by decide +kernel
theorem dX4_findKnot_104 : decode cX4_findKnot 104 = .ok (.iconst 0, 1) := by decide +kernel
theorem dX4_findKnot_105 : decode cX4_findKnot 105 = .ok (.laload, 1) := by decide +kernel
theorem dX4_findKnot_106 : decode cX4_findKnot 106 = .ok (.lmul, 1) := by decide +kernel
theorem dX4_findKnot_107 : decode cX4_findKnot 107 = .ok (.aload_n 0, 1) := by decide +kernel
theorem dX4_findKnot_108 : decode cX4_findKnot 108 = .ok (.getfield 27, 3) := by decide +kernel
theorem dX4_findKnot_111 : decode cX4_findKnot 111 = .ok (.iconst 2, 1) := by decide +kernel
theorem dX4_findKnot_112 : decode cX4_findKnot 112 = .ok (.laload, 1) := by decide +kernel
theorem dX4_findKnot_113 : decode cX4_findKnot 113 = .ok (.lmul, 1) := by decide +kernel
theorem dX4_findKnot_114 : decode cX4_findKnot 114 = .ok (.lsub, 1) := by decide +kernel
theorem dX4_findKnot_115 : decode cX4_findKnot 115 = .ok (.invokestatic 174, 3) := by decide +kernel
theorem dX4_findKnot_118 : decode cX4_findKnot 118 = .ok (.iadd, 1) := by decide +kernel
theorem dX4_findKnot_119 : decode cX4_findKnot 119 = .ok (.putfield 180, 3) := by decide +kernel
theorem dX4_findKnot_122 : decode cX4_findKnot 122 = .ok (.return_, 1) := by decide +kernel
theorem dX5_init_0 : decode cX5_init 0 = .ok (.aload_n 0, 1) := by decide +kernel
theorem dX5_init_1 : decode cX5_init 1 = .ok (.invokespecial 3, 3) := by decide +kernel
theorem dX5_init_4 : decode cX5_init 4 = .ok (.aload_n 0, 1) := by decide +kernel
theorem dX5_init_5 : decode cX5_init 5 = .ok (.bipush 90, 2) := by decide +kernel
theorem dX5_init_7 : decode cX5_init 7 = .ok (.newarray .int, 2) := by decide +kernel
theorem dX5_init_9 : decode cX5_init 9 = .ok (.putfield 11, 3) := by decide +kernel
theorem dX5_init_12 : decode cX5_init 12 = .ok (.return_, 1) := by decide +kernel
set_option maxRecDepth 20000 in
theorem ggX5_isText_X5_byteOf : GoodIn wsX5_isText wsX5_byteOf := goodIn_r _ [4] rfl (by decide +kernel)
set_option maxRecDepth 20000 in
theorem gX5_isText_X5_byteOf : GoodIn wsX5_isText (va_wsS RX5 15 yX5_byteOf wsX5_byteOf) := goodIn_app (goodIn_of _ (by decide +kernel)) ggX5_isText_X5_byteOf
set_option maxRecDepth 20000 in
theorem ggX5_isText_X7_within : GoodIn wsX5_isText wsX7_within := goodIn_r _ [7] rfl (by decide +kernel)
set_option maxRecDepth 20000 in
theorem gX5_isText_X7_within_n19 : GoodIn wsX5_isText (wsX7_within) := ggX5_isText_X7_within
theorem dX5_isText_0 : decode cX5_isText 0 = .ok (.iconst 0, 1) := by decide +kernel
theorem dX5_isText_1 : decode cX5_isText 1 = .ok (.istore_n 3, 1) := by decide +kernel
theorem dX5_isText_2 : decode cX5_isText 2 = .ok (.iload_n 3, 1) := by decide +kernel
theorem dX5_isText_3 : decode cX5_isText 3 = .ok (.iload_n 2, 1) := by decide +kernel
theorem dX5_isText_4 : decode cX5_isText 4 = .ok (.if_icmp .ge 26, 3) := by decide +kernel
theorem dX5_isText_7 : decode cX5_isText 7 = .ok (.lload_n 0, 1) := by decide +kernel
theorem dX5_isText_8 : decode cX5_isText 8 = .ok (.iload_n 3, 1) := by decide +kernel
theorem dX5_isText_9 : decode cX5_isText 9 = .ok (.invokestatic 15, 3) := by decide +kernel
theorem dX5_isText_12 : decode cX5_isText 12 = .ok (.bipush 32, 2) := by decide +kernel
theorem dX5_isText_14 : decode cX5_isText 14 = .ok (.bipush 126, 2) := by decide +kernel
theorem dX5_isText_16 : decode cX5_isText 16 = .ok (.invokestatic 19, 3) := by decide +kernel
theorem dX5_isText_19 : decode cX5_isText 19 = .ok (.ifCond .ne 5, 3) := by decide +kernel
theorem dX5_isText_22 : decode cX5_isText 22 = .ok (.iconst 0, 1) := by decide +kernel
theorem dX5_isText_23 : decode cX5_isText 23 = .ok (.ireturn, 1) := by decide +kernel
theorem dX5_isText_24 : decode cX5_isText 24 = .ok (.iinc 3 1, 3) := by decide +kernel
theorem dX5_isText_27 : decode cX5_isText 27 = .ok (.goto (-25), 3) := by decide +kernel
theorem dX5_isText_30 : decode cX5_isText 30 = .ok (.iconst 1, 1) := by decide +kernel
theorem dX5_isText_31 : decode cX5_isText 31 = .ok (.ireturn, 1) := by decide +kernel
theorem dX5_byteOf_0 : decode cX5_byteOf 0 = .ok (.lload_n 0, 1) := by decide +kernel
theorem dX5_byteOf_1 : decode cX5_byteOf 1 = .ok (.bipush 8, 2) := by decide +kernel
theorem dX5_byteOf_3 : decode cX5_byteOf 3 = .ok (.iload_n 2, 1) := by decide +kernel
theorem dX5_byteOf_4 : decode cX5_byteOf 4 = .ok (.imul, 1) := by decide +kernel
theorem dX5_byteOf_5 : decode cX5_byteOf 5 = .ok (.lushr, 1) := by decide +kernel
theorem dX5_byteOf_6 : decode cX5_byteOf 6 = .ok (.l2i, 1) := by decide +kernel
theorem dX5_byteOf_7 : decode cX5_byteOf 7 = .ok (.sipush 255, 3) := by decide +kernel
theorem dX5_byteOf_10 : decode cX5_byteOf 10 = .ok (.iand, 1) := by decide +kernel
theorem dX5_byteOf_11 : decode cX5_byteOf 11 = .ok (.ireturn, 1) := by decide +kernel
set_option maxRecDepth 20000 in
theorem ggX5_append_X5_byteOf : GoodIn wsX5_append wsX5_byteOf := goodIn_r _ [6] rfl (by decide +kernel)
set_option maxRecDepth 20000 in
theorem gX5_append_X5_byteOf : GoodIn wsX5_append (va_wsS RX5 15 yX5_byteOf wsX5_byteOf) := goodIn_app (goodIn_of _ (by decide +kernel)) ggX5_append_X5_byteOf
theorem dX5_append_0 : decode cX5_append 0 = .ok (.iload_n 3, 1) := by decide +kernel
theorem dX5_append_1 : decode cX5_append 1 = .ok (.bipush 90, 2) := by decide +kernel
theorem dX5_append_3 : decode cX5_append 3 = .ok (.aload_n 0, 1) := by decide +kernel
theorem dX5_append_4 : decode cX5_append 4 = .ok (.getfield 23, 3) := by decide +kernel
theorem dX5_append_7 : decode cX5_append 7 = .ok (.isub, 1) := by decide +kernel
theorem dX5_append_8 : decode cX5_append 8 = .ok (.if_icmp .le 5, 3) := by decide +kernel
theorem dX5_append_11 : decode cX5_append 11 = .ok (.iconst 0, 1) := by decide +kernel
theorem dX5_append_12 : decode cX5_append 12 = .ok (.ireturn, 1) := by decide +kernel
theorem dX5_append_13 : decode cX5_append 13 = .ok (.iload_n 3, 1) := by decide +kernel
theorem dX5_append_14 : decode cX5_append 14 = .ok (.iconst 1, 1) := by decide +kernel
theorem dX5_append_15 : decode cX5_append 15 = .ok (.isub, 1) := by decide +kernel
theorem dX5_append_16 : decode cX5_append 16 = .ok (.istore 4, 2) := by decide +kernel
theorem dX5_append_18 : decode cX5_append 18 = .ok (.iload 4, 2) := by decide +kernel
theorem dX5_append_20 : decode cX5_append 20 = .ok (.ifCond .lt 43, 3) := by decide +kernel
theorem dX5_append_23 : decode cX5_append 23 = .ok (.aload_n 0, 1) := by decide +kernel
theorem dX5_append_24 : decode cX5_append 24 = .ok (.getfield 23, 3) := by decide +kernel
theorem dX5_append_27 : decode cX5_append 27 = .ok (.bipush 90, 2) := by decide +kernel
theorem dX5_append_29 : decode cX5_append 29 = .ok (.if_icmp .ge 34, 3) := by decide +kernel
theorem dX5_append_32 : decode cX5_append 32 = .ok (.aload_n 0, 1) := by decide +kernel
theorem dX5_append_33 : decode cX5_append 33 = .ok (.getfield 11, 3) := by decide +kernel
theorem dX5_append_36 : decode cX5_append 36 = .ok (.aload_n 0, 1) := by decide +kernel
theorem dX5_append_37 : decode cX5_append 37 = .ok (.getfield 23, 3) := by decide +kernel
theorem dX5_append_40 : decode cX5_append 40 = .ok (.lload_n 1, 1) := by decide +kernel
theorem dX5_append_41 : decode cX5_append 41 = .ok (.iload 4, 2) := by decide +kernel
theorem dX5_append_43 : decode cX5_append 43 = .ok (.invokestatic 15, 3) := by decide +kernel
theorem dX5_append_46 : decode cX5_append 46 = .ok (.iastore, 1) := by decide +kernel
theorem dX5_append_47 : decode cX5_append 47 = .ok (.aload_n 0, 1) := by decide +kernel
theorem dX5_append_48 : decode cX5_append 48 = .ok (.dup, 1) := by decide +kernel
theorem dX5_append_49 : decode cX5_append 49 = .ok (.getfield 23, 3) := by decide +kernel
theorem dX5_append_52 : decode cX5_append 52 = .ok (.iconst 1, 1) := by decide +kernel
theorem dX5_append_53 : decode cX5_append 53 = .ok (.iadd, 1) := by decide +kernel
theorem dX5_append_54 : decode cX5_append 54 = .ok (.putfield 23, 3) := by decide +kernel
theorem dX5_append_57 : decode cX5_append 57 = .ok (.iinc 4 (-1), 3) := by decide +kernel
theorem dX5_append_60 : decode cX5_append 60 = .ok (.goto (-42), 3) := by decide +kernel
theorem dX5_append_63 : decode cX5_append 63 = .ok (.iconst 1, 1) := by decide +kernel
theorem dX5_append_64 : decode cX5_append 64 = .ok (.ireturn, 1) := by decide +kernel
set_option maxRecDepth 20000 in
theorem ggX5_read_J7_fill_d0a16 : GoodIn wsX5_read wsJ7_fill_d0a16 := goodIn_r _ [5] rfl (by decide +kernel)
set_option maxRecDepth 20000 in
theorem gX5_read_J7_fill_d0a16 : GoodIn wsX5_read (va_wsS RX5 27 yJ7_fill_d0a16 wsJ7_fill_d0a16) := goodIn_app (goodIn_of _ (by decide +kernel)) ggX5_read_J7_fill_d0a16
set_option maxRecDepth 20000 in
theorem ggX5_read_X5_readPolynomial : GoodIn wsX5_read wsX5_readPolynomial := goodIn_r _ [10, 1, 11, 12, 13, 9, 14, 15, 16, 17, 18, 19, 20, 21, 22, 23, 24, 25, 26, 27, 28, 29, 30, 31, 32, 33, 34, 35, 36, 37, 38, 39, 40, 41, 42, 43, 44, 45] rfl (by decide +kernel)
set_option maxRecDepth 20000 in
theorem gX5_read_X5_readPolynomial : GoodIn wsX5_read (wsV RX5 36 RX5 yX5_readPolynomial wsX5_readPolynomial) := goodIn_app (goodIn_of _ (by decide +kernel)) ggX5_read_X5_readPolynomial
set_option maxRecDepth 20000 in
theorem ggX5_read_X5_next : GoodIn wsX5_read wsX5_next := goodIn_r _ [14, 1, 15, 16, 43, 44, 45] rfl (by decide +kernel)
set_option maxRecDepth 20000 in
theorem gX5_read_X5_next : GoodIn wsX5_read (wsV RX5 40 RX5 yX5_next wsX5_next) := goodIn_app (goodIn_of _ (by decide +kernel)) ggX5_read_X5_next
theorem dX5_read_0 : decode cX5_read 0 = .ok (.aload_n 1, 1) := by decide +kernel
theorem dX5_read_1 : decode cX5_read 1 = .ok (.lconst 0, 1) := by decide +kernel
theorem dX5_read_2 : decode cX5_read 2 = .ok (.invokestatic 27, 3) := by decide +kernel
theorem dX5_read_5 : decode cX5_read 5 = .ok (.aload_n 0, 1) := by decide +kernel
theorem dX5_read_6 : decode cX5_read 6 = .ok (.iconst 0, 1) := by decide +kernel
theorem dX5_read_7 : decode cX5_read 7 = .ok (.putfield 33, 3) := by decide +kernel
theorem dX5_read_10 : decode cX5_read 10 = .ok (.iconst 0, 1) := by decide +kernel
theorem dX5_read_11 : decode cX5_read 11 = .ok (.istore_n 2, 1) := by decide +kernel
theorem dX5_read_12 : decode cX5_read 12 = .ok (.iload_n 2, 1) := by decide +kernel
theorem dX5_read_13 : decode cX5_read 13 = .ok (.bipush 12, 2) := by decide +kernel
theorem dX5_read_15 : decode cX5_read 15 = .ok (.if_icmp .ge 67, 3) := by decide +kernel
theorem dX5_read_18 : decode cX5_read 18 = .ok (.aload_n 0, 1) := by decide +kernel
theorem dX5_read_19 : decode cX5_read 19 = .ok (.aload_n 1, 1) := by decide +kernel
theorem dX5_read_20 : decode cX5_read 20 = .ok (.iload_n 2, 1) := by decide +kernel
theorem dX5_read_21 : decode cX5_read 21 = .ok (.invokevirtual 36, 3) := by decide +kernel
theorem dX5_read_24 : decode cX5_read 24 = .ok (.ifCond .ne 5, 3) := by decide +kernel
theorem dX5_read_27 : decode cX5_read 27 = .ok (.iconst 0, 1) := by decide +kernel
theorem dX5_read_28 : decode cX5_read 28 = .ok (.ireturn, 1) := by decide +kernel
theorem dX5_read_29 : decode cX5_read 29 = .ok (.iload_n 2, 1) := by decide +kernel
theorem dX5_read_30 : decode cX5_read 30 = .ok (.iconst 4, 1) := by decide +kernel
theorem dX5_read_31 : decode cX5_read 31 = .ok (.iadd, 1) := by decide +kernel
theorem dX5_read_32 : decode cX5_read 32 = .ok (.bipush 12, 2) := by decide +kernel
theorem dX5_read_34 : decode cX5_read 34 = .ok (.if_icmp .ne 7, 3) := by decide +kernel
theorem dX5_read_37 : decode cX5_read 37 = .ok (.iconst 1, 1) := by decide +kernel
theorem dX5_read_38 : decode cX5_read 38 = .ok (.goto 4, 3) := by decide +kernel
theorem dX5_read_41 : decode cX5_read 41 = .ok (.iconst 0, 1) := by decide +kernel
theorem dX5_read_42 : decode cX5_read 42 = .ok (.istore_n 3, 1) := by decide +kernel
theorem dX5_read_43 : decode cX5_read 43 = .ok (.aload_n 0, 1) := by decide +kernel
theorem dX5_read_44 : decode cX5_read 44 = .ok (.invokevirtual 40, 3) := by decide +kernel
theorem dX5_read_47 : decode cX5_read 47 = .ok (.iload_n 3, 1) := by decide +kernel
theorem dX5_read_48 : decode cX5_read 48 = .ok (.ifCond .eq 7, 3) := by decide +kernel
theorem dX5_read_51 : decode cX5_read 51 = .ok (.iconst (-1), 1) := by decide +kernel
theorem dX5_read_52 : decode cX5_read 52 = .ok (.goto 5, 3) := by decide +kernel
theorem dX5_read_55 : decode cX5_read 55 = .ok (.bipush 59, 2) := by decide +kernel
theorem dX5_read_57 : decode cX5_read 57 = .ok (.if_icmp .eq 5, 3) := by decide +kernel
theorem dX5_read_60 : decode cX5_read 60 = .ok (.iconst 0, 1) := by decide +kernel
theorem dX5_read_61 : decode cX5_read 61 = .ok (.ireturn, 1) := by decide +kernel
theorem dX5_read_62 : decode cX5_read 62 = .ok (.iload_n 3, 1) := by decide +kernel
theorem dX5_read_63 : decode cX5_read 63 = .ok (.ifCond .ne 13, 3) := by decide +kernel
theorem dX5_read_66 : decode cX5_read 66 = .ok (.aload_n 0, 1) := by decide +kernel
theorem dX5_read_67 : decode cX5_read 67 = .ok (.dup, 1) := by decide +kernel
theorem dX5_read_68 : decode cX5_read 68 = .ok (.getfield 33, 3) := by decide +kernel
theorem dX5_read_71 : decode cX5_read 71 = .ok (.iconst 1, 1) := by decide +kernel
theorem dX5_read_72 : decode cX5_read 72 = .ok (.iadd, 1) := by decide +kernel
theorem dX5_read_73 : decode cX5_read 73 = .ok (.putfield 33, 3) := by decide +kernel
theorem dX5_read_76 : decode cX5_read 76 = .ok (.iinc 2 4, 3) := by decide +kernel
theorem dX5_read_79 : decode cX5_read 79 = .ok (.goto (-67), 3) := by decide +kernel
theorem dX5_read_82 : decode cX5_read 82 = .ok (.iconst 1, 1) := by decide +kernel
theorem dX5_read_83 : decode cX5_read 83 = .ok (.ireturn, 1) := by decide +kernel
set_option maxRecDepth 20000 in
theorem ggX5_readPolynomial_X5_next : GoodIn wsX5_readPolynomial wsX5_next := goodIn_r _ [6, 1, 7, 8, 35, 36, 37] rfl (by decide +kernel)
set_option maxRecDepth 20000 in
theorem gX5_readPolynomial_X5_next : GoodIn wsX5_readPolynomial (wsV RX5 40 RX5 yX5_next wsX5_next) := goodIn_app (goodIn_of _ (by decide +kernel)) ggX5_readPolynomial_X5_next
set_option maxRecDepth 20000 in
theorem ggX5_readPolynomial_X5_readTerm : GoodIn wsX5_readPolynomial wsX5_readTerm := goodIn_r _ [12, 1, 13, 2, 3, 4, 5, 6, 7, 8, 14, 15, 16, 17, 18, 19, 20, 21, 22, 23, 24, 25, 26, 27, 28, 29, 30, 31, 32, 33, 34, 35, 36, 37] rfl (by decide +kernel)
set_option maxRecDepth 20000 in
theorem gX5_readPolynomial_X5_readTerm : GoodIn wsX5_readPolynomial (wsV RX5 44 RX5 yX5_readTerm wsX5_readTerm) := goodIn_app (goodIn_of _ (by decide +kernel)) ggX5_readPolynomial_X5_readTerm
theorem dX5_readPolynomial_0 : decode cX5_readPolynomial 0 = .ok (.iconst 1, 1) := by decide +kernel
theorem dX5_readPolynomial_1 : decode cX5_readPolynomial 1 = .ok (.istore_n 3, 1) := by decide +kernel
theorem dX5_readPolynomial_2 : decode cX5_readPolynomial 2 = .ok (.iconst 0, 1) := by decide +kernel
theorem dX5_readPolynomial_3 : decode cX5_readPolynomial 3 = .ok (.istore 4, 2) := by decide +kernel
theorem dX5_readPolynomial_5 : decode cX5_readPolynomial 5 = .ok (.iload_n 3, 1) := by decide +kernel
theorem dX5_readPolynomial_6 : decode cX5_readPolynomial 6 = .ok (.ifCond .eq 98, 3) := by decide +kernel
theorem dX5_readPolynomial_9 : decode cX5_readPolynomial 9 = .ok (.iload 4, 2) := by decide +kernel
theorem dX5_readPolynomial_11 : decode cX5_readPolynomial 11 = .ok (.bipush 90, 2) := by decide +kernel
theorem dX5_readPolynomial_13 : decode cX5_readPolynomial 13 = .ok (.if_icmp .ge 91, 3) := by decide +kernel
theorem dX5_readPolynomial_16 : decode cX5_readPolynomial 16 = .ok (.aload_n 0, 1) := by decide +kernel
theorem dX5_readPolynomial_17 : decode cX5_readPolynomial 17 = .ok (.invokevirtual 40, 3) := by decide +kernel
theorem dX5_readPolynomial_20 : decode cX5_readPolynomial 20 = .ok (.istore 5, 2) := by decide +kernel
theorem dX5_readPolynomial_22 : decode cX5_readPolynomial 22 = .ok (.iload 5, 2) := by decide +kernel
theorem dX5_readPolynomial_24 : decode cX5_readPolynomial 24 = .ok (.bipush 45, 2) := by decide +kernel
theorem dX5_readPolynomial_26 : decode cX5_readPolynomial 26 = .ok (.if_icmp .eq 15, 3) := by decide +kernel
theorem dX5_readPolynomial_29 : decode cX5_readPolynomial 29 = .ok (.iload 5, 2) := by decide +kernel
theorem dX5_readPolynomial_31 : decode cX5_readPolynomial 31 = .ok (.bipush 43, 2) := by decide +kernel
theorem dX5_readPolynomial_33 : decode cX5_readPolynomial 33 = .ok (.if_icmp .ne 18, 3) := by decide +kernel
theorem dX5_readPolynomial_36 : decode cX5_readPolynomial 36 = .ok (.iload 4, 2) := by decide +kernel
theorem dX5_readPolynomial_38 : decode cX5_readPolynomial 38 = .ok (.ifCond .le 13, 3) := by decide +kernel
theorem dX5_readPolynomial_41 : decode cX5_readPolynomial 41 = .ok (.aload_n 0, 1) := by decide +kernel
theorem dX5_readPolynomial_42 : decode cX5_readPolynomial 42 = .ok (.dup, 1) := by decide +kernel
theorem dX5_readPolynomial_43 : decode cX5_readPolynomial 43 = .ok (.getfield 33, 3) := by decide +kernel
theorem dX5_readPolynomial_46 : decode cX5_readPolynomial 46 = .ok (.iconst 1, 1) := by decide +kernel
theorem dX5_readPolynomial_47 : decode cX5_readPolynomial 47 = .ok (.iadd, 1) := by decide +kernel
theorem dX5_readPolynomial_48 : decode cX5_readPolynomial 48 = .ok (.putfield 33, 3) := by decide +kernel
theorem dX5_readPolynomial_51 : decode cX5_readPolynomial 51 = .ok (.aload_n 0, 1) := by decide +kernel
theorem dX5_readPolynomial_52 : decode cX5_readPolynomial 52 = .ok (.aload_n 1, 1) := by decide +kernel
theorem dX5_readPolynomial_53 : decode cX5_readPolynomial 53 = .ok (.iload_n 2, 1) := by decide +kernel
theorem dX5_readPolynomial_54 : decode cX5_readPolynomial 54 = .ok (.iload 5, 2) := by decide +kernel
theorem dX5_readPolynomial_56 : decode cX5_readPolynomial 56 = .ok (.bipush 45, 2) := by decide +kernel
theorem dX5_readPolynomial_58 : decode cX5_readPolynomial 58 = .ok (.if_icmp .ne 7, 3) := by decide +kernel
theorem dX5_readPolynomial_61 : decode cX5_readPolynomial 61 = .ok (.iconst (-1), 1) := by decide +kernel
theorem dX5_readPolynomial_62 : decode cX5_readPolynomial 62 = .ok (.goto 4, 3) := by decide +kernel
theorem dX5_readPolynomial_65 : decode cX5_readPolynomial 65 = .ok (.iconst 1, 1) := by decide +kernel
theorem dX5_readPolynomial_66 : decode cX5_readPolynomial 66 = .ok (.invokevirtual 44, 3) := by decide +kernel
theorem dX5_readPolynomial_69 : decode cX5_readPolynomial 69 = .ok (.ifCond .ne 5, 3) := by decide +kernel
theorem dX5_readPolynomial_72 : decode cX5_readPolynomial 72 = .ok (.iconst 0, 1) := by decide +kernel
theorem dX5_readPolynomial_73 : decode cX5_readPolynomial 73 = .ok (.ireturn, 1) := by decide +kernel
theorem dX5_readPolynomial_74 : decode cX5_readPolynomial 74 = .ok (.aload_n 0, 1) := by decide +kernel
theorem dX5_readPolynomial_75 : decode cX5_readPolynomial 75 = .ok (.invokevirtual 40, 3) := by decide +kernel
theorem dX5_readPolynomial_78 : decode cX5_readPolynomial 78 = .ok (.bipush 43, 2) := by decide +kernel
theorem dX5_readPolynomial_80 : decode cX5_readPolynomial 80 = .ok (.if_icmp .eq 12, 3) := by decide +kernel
theorem dX5_readPolynomial_83 : decode cX5_readPolynomial 83 = .ok (.aload_n 0, 1) := by decide +kernel
theorem dX5_readPolynomial_84 : decode cX5_readPolynomial 84 = .ok (.invokevirtual 40, 3) := by decide +kernel
theorem dX5_readPolynomial_87 : decode cX5_readPolynomial 87 = .ok (.bipush 45, 2) := by decide +kernel
theorem dX5_readPolynomial_89 : decode cX5_readPolynomial 89 = .ok (.if_icmp .ne 7, 3) := by decide +kernel
theorem dX5_readPolynomial_92 : decode cX5_readPolynomial 92 = .ok (.iconst 1, 1) := by decide +kernel
theorem dX5_readPolynomial_93 : decode cX5_readPolynomial 93 = .ok (.goto 4, 3) := by decide +kernel
theorem dX5_readPolynomial_96 : decode cX5_readPolynomial 96 = .ok (.iconst 0, 1) := by decide +kernel
theorem dX5_readPolynomial_97 : decode cX5_readPolynomial 97 = .ok (.istore_n 3, 1) := by decide +kernel
theorem dX5_readPolynomial_98 : decode cX5_readPolynomial 98 = .ok (.iinc 4 1, 3) := by decide +kernel
theorem dX5_readPolynomial_101 : decode cX5_readPolynomial 101 = .ok (.goto (-96), 3) := by decide +kernel
theorem dX5_readPolynomial_104 : decode cX5_readPolynomial 104 = .ok (.iconst 1, 1) := by decide +kernel
theorem dX5_readPolynomial_105 : decode cX5_readPolynomial 105 = .ok (.ireturn, 1) := by decide +kernel
set_option maxRecDepth 20000 in
theorem ggX5_readTerm_X5_next : GoodIn wsX5_readTerm wsX5_next := goodIn_r _ [7, 1, 8, 9, 31, 32, 33] rfl (by decide +kernel)
set_option maxRecDepth 20000 in
theorem gX5_readTerm_X5_next : GoodIn wsX5_readTerm (wsV RX5 40 RX5 yX5_next wsX5_next) := goodIn_app (goodIn_of _ (by decide +kernel)) ggX5_readTerm_X5_next
set_option maxRecDepth 20000 in
theorem ggX5_readTerm_X5_isDigit : GoodIn wsX5_readTerm wsX5_isDigit := goodIn_r _ [12, 13, 14, 15] rfl (by decide +kernel)
set_option maxRecDepth 20000 in
theorem gX5_readTerm_X5_isDigit : GoodIn wsX5_readTerm (va_wsS RX5 48 yX5_isDigit wsX5_isDigit) := goodIn_app (goodIn_of _ (by decide +kernel)) ggX5_readTerm_X5_isDigit
set_option maxRecDepth 20000 in
theorem ggX5_readTerm_X5_readNumber : GoodIn wsX5_readTerm wsX5_readNumber := goodIn_r _ [19, 1, 8, 9, 20, 21, 22, 23, 24, 25, 26, 10, 11, 6, 12, 13, 14, 15, 31, 32, 33] rfl (by decide +kernel)
set_option maxRecDepth 20000 in
theorem gX5_readTerm_X5_readNumber : GoodIn wsX5_readTerm (wsV RX5 52 RX5 yX5_readNumber wsX5_readNumber) := goodIn_app (goodIn_of _ (by decide +kernel)) ggX5_readTerm_X5_readNumber
set_option maxRecDepth 20000 in
theorem ggX5_readTerm_X5_readPower : GoodIn wsX5_readTerm wsX5_readPower := goodIn_r _ [30, 1, 3, 4, 5, 6, 7, 8, 9, 31, 32, 33] rfl (by decide +kernel)
set_option maxRecDepth 20000 in
theorem gX5_readTerm_X5_readPower : GoodIn wsX5_readTerm (wsV RX5 58 RX5 yX5_readPower wsX5_readPower) := goodIn_app (goodIn_of _ (by decide +kernel)) ggX5_readTerm_X5_readPower
theorem dX5_readTerm_0 : decode cX5_readTerm 0 = .ok (.lconst 1, 1) := by decide +kernel
theorem dX5_readTerm_1 : decode cX5_readTerm 1 = .ok (.lstore 4, 2) := by decide +kernel
theorem dX5_readTerm_3 : decode cX5_readTerm 3 = .ok (.iconst 0, 1) := by decide +kernel
theorem dX5_readTerm_4 : decode cX5_readTerm 4 = .ok (.istore 6, 2) := by decide +kernel
theorem dX5_readTerm_6 : decode cX5_readTerm 6 = .ok (.aload_n 0, 1) := by decide +kernel
theorem dX5_readTerm_7 : decode cX5_readTerm 7 = .ok (.invokevirtual 40, 3) := by decide +kernel
theorem dX5_readTerm_10 : decode cX5_readTerm 10 = .ok (.invokestatic 48, 3) := by decide +kernel
theorem dX5_readTerm_13 : decode cX5_readTerm 13 = .ok (.ifCond .eq 35, 3) := by decide +kernel
theorem dX5_readTerm_16 : decode cX5_readTerm 16 = .ok (.aload_n 0, 1) := by decide +kernel
theorem dX5_readTerm_17 : decode cX5_readTerm 17 = .ok (.getfield 33, 3) := by decide +kernel
theorem dX5_readTerm_20 : decode cX5_readTerm 20 = .ok (.istore 7, 2) := by decide +kernel
theorem dX5_readTerm_22 : decode cX5_readTerm 22 = .ok (.aload_n 0, 1) := by decide +kernel
theorem dX5_readTerm_23 : decode cX5_readTerm 23 = .ok (.invokevirtual 52, 3) := by decide +kernel
theorem dX5_readTerm_26 : decode cX5_readTerm 26 = .ok (.lstore 4, 2) := by decide +kernel
theorem dX5_readTerm_28 : decode cX5_readTerm 28 = .ok (.lload 4, 2) := by decide +kernel
theorem dX5_readTerm_30 : decode cX5_readTerm 30 = .ok (.ldc2_w 56, 3) := by decide +kernel
theorem dX5_readTerm_33 : decode cX5_readTerm 33 = .ok (.lcmp, 1) := by decide +kernel
theorem dX5_readTerm_34 : decode cX5_readTerm 34 = .ok (.ifCond .le 11, 3) := by decide +kernel
theorem dX5_readTerm_37 : decode cX5_readTerm 37 = .ok (.aload_n 0, 1) := by decide +kernel
theorem dX5_readTerm_38 : decode cX5_readTerm 38 = .ok (.iload 7, 2) := by decide +kernel
theorem dX5_readTerm_40 : decode cX5_readTerm 40 = .ok (.putfield 33, 3) := by decide +kernel
theorem dX5_readTerm_43 : decode cX5_readTerm 43 = .ok (.iconst 0, 1) := by decide +kernel
theorem dX5_readTerm_44 : decode cX5_readTerm 44 = .ok (.ireturn, 1) := by decide +kernel
theorem dX5_readTerm_45 : decode cX5_readTerm 45 = .ok (.goto 14, 3) := by decide +kernel
theorem dX5_readTerm_48 : decode cX5_readTerm 48 = .ok (.aload_n 0, 1) := by decide +kernel
theorem dX5_readTerm_49 : decode cX5_readTerm 49 = .ok (.invokevirtual 40, 3) := by decide +kernel
theorem dX5_readTerm_52 : decode cX5_readTerm 52 = .ok (.bipush 116, 2) := by decide +kernel
theorem dX5_readTerm_54 : decode cX5_readTerm 54 = .ok (.if_icmp .eq 5, 3) := by decide +kernel
theorem dX5_readTerm_57 : decode cX5_readTerm 57 = .ok (.iconst 0, 1) := by decide +kernel
theorem dX5_readTerm_58 : decode cX5_readTerm 58 = .ok (.ireturn, 1) := by decide +kernel
theorem dX5_readTerm_59 : decode cX5_readTerm 59 = .ok (.aload_n 0, 1) := by decide +kernel
theorem dX5_readTerm_60 : decode cX5_readTerm 60 = .ok (.invokevirtual 40, 3) := by decide +kernel
theorem dX5_readTerm_63 : decode cX5_readTerm 63 = .ok (.bipush 116, 2) := by decide +kernel
theorem dX5_readTerm_65 : decode cX5_readTerm 65 = .ok (.if_icmp .ne 19, 3) := by decide +kernel
theorem dX5_readTerm_68 : decode cX5_readTerm 68 = .ok (.aload_n 0, 1) := by decide +kernel
theorem dX5_readTerm_69 : decode cX5_readTerm 69 = .ok (.dup, 1) := by decide +kernel
theorem dX5_readTerm_70 : decode cX5_readTerm 70 = .ok (.getfield 33, 3) := by decide +kernel
theorem dX5_readTerm_73 : decode cX5_readTerm 73 = .ok (.iconst 1, 1) := by decide +kernel
theorem dX5_readTerm_74 : decode cX5_readTerm 74 = .ok (.iadd, 1) := by decide +kernel
theorem dX5_readTerm_75 : decode cX5_readTerm 75 = .ok (.putfield 33, 3) := by decide +kernel
theorem dX5_readTerm_78 : decode cX5_readTerm 78 = .ok (.aload_n 0, 1) := by decide +kernel
theorem dX5_readTerm_79 : decode cX5_readTerm 79 = .ok (.invokevirtual 58, 3) := by decide +kernel
theorem dX5_readTerm_82 : decode cX5_readTerm 82 = .ok (.istore 6, 2) := by decide +kernel
theorem dX5_readTerm_84 : decode cX5_readTerm 84 = .ok (.iload_n 2, 1) := by decide +kernel
theorem dX5_readTerm_85 : decode cX5_readTerm 85 = .ok (.iload 6, 2) := by decide +kernel
theorem dX5_readTerm_87 : decode cX5_readTerm 87 = .ok (.iadd, 1) := by decide +kernel
theorem dX5_readTerm_88 : decode cX5_readTerm 88 = .ok (.istore 7, 2) := by decide +kernel
theorem dX5_readTerm_90 : decode cX5_readTerm 90 = .ok (.iload 7, 2) := by decide +kernel
theorem dX5_readTerm_92 : decode cX5_readTerm 92 = .ok (.ifCond .lt 22, 3) := by decide +kernel
theorem dX5_readTerm_95 : decode cX5_readTerm 95 = .ok (.iload 7, 2) := by decide +kernel
theorem dX5_readTerm_97 : decode cX5_readTerm 97 = .ok (.aload_n 1, 1) := by decide +kernel
theorem dX5_readTerm_98 : decode cX5_readTerm 98 = .ok (.arraylength, 1) := by decide +kernel
theorem dX5_readTerm_99 : decode cX5_readTerm 99 = .ok (.if_icmp .ge 15, 3) := by decide +kernel
theorem dX5_readTerm_102 : decode cX5_readTerm 102 = .ok (.aload_n 1, 1) := by decide +kernel
theorem dX5_readTerm_103 : decode cX5_readTerm 103 = .ok (.iload 7, 2) := by decide +kernel
theorem dX5_readTerm_105 : decode cX5_readTerm 105 = .ok (.dup2, 1) := by decide +kernel
theorem dX5_readTerm_106 : decode cX5_readTerm 106 = .ok (.laload, 1) := by decide +kernel
theorem dX5_readTerm_107 : decode cX5_readTerm 107 = .ok (.iload_n 3, 1) := by decide +kernel
theorem dX5_readTerm_108 : decode cX5_readTerm 108 = .ok (.i2l, 1) := by decide +kernel
theorem dX5_readTerm_109 : decode cX5_readTerm 109 = .ok (.lload 4, 2) := by decide +kernel
theorem dX5_readTerm_111 : decode cX5_readTerm 111 = .ok (.lmul, 1) := by decide +kernel
theorem dX5_readTerm_112 : decode cX5_readTerm 112 = .ok (.ladd, 1) := by decide +kernel
theorem dX5_readTerm_113 : decode cX5_readTerm 113 = .ok (.lastore, 1) := by decide +kernel
theorem dX5_readTerm_114 : decode cX5_readTerm 114 = .ok (.iconst 1, 1) := by decide +kernel
theorem dX5_readTerm_115 : decode cX5_readTerm 115 = .ok (.ireturn, 1) := by decide +kernel
set_option maxRecDepth 20000 in
theorem ggX5_readPower_X5_next : GoodIn wsX5_readPower wsX5_next := goodIn_r _ [6, 1, 7, 8, 9, 10, 11] rfl (by decide +kernel)
set_option maxRecDepth 20000 in
theorem gX5_readPower_X5_next : GoodIn wsX5_readPower (wsV RX5 40 RX5 yX5_next wsX5_next) := goodIn_app (goodIn_of _ (by decide +kernel)) ggX5_readPower_X5_next
theorem dX5_readPower_0 : decode cX5_readPower 0 = .ok (.aload_n 0, 1) := by decide +kernel
theorem dX5_readPower_1 : decode cX5_readPower 1 = .ok (.invokevirtual 40, 3) := by decide +kernel
theorem dX5_readPower_4 : decode cX5_readPower 4 = .ok (.bipush 48, 2) := by decide +kernel
theorem dX5_readPower_6 : decode cX5_readPower 6 = .ok (.isub, 1) := by decide +kernel
theorem dX5_readPower_7 : decode cX5_readPower 7 = .ok (.istore_n 1, 1) := by decide +kernel
theorem dX5_readPower_8 : decode cX5_readPower 8 = .ok (.iload_n 1, 1) := by decide +kernel
theorem dX5_readPower_9 : decode cX5_readPower 9 = .ok (.iconst 2, 1) := by decide +kernel
theorem dX5_readPower_10 : decode cX5_readPower 10 = .ok (.if_icmp .eq 10, 3) := by decide +kernel
theorem dX5_readPower_13 : decode cX5_readPower 13 = .ok (.iload_n 1, 1) := by decide +kernel
theorem dX5_readPower_14 : decode cX5_readPower 14 = .ok (.iconst 3, 1) := by decide +kernel
theorem dX5_readPower_15 : decode cX5_readPower 15 = .ok (.if_icmp .eq 5, 3) := by decide +kernel
theorem dX5_readPower_18 : decode cX5_readPower 18 = .ok (.iconst 1, 1) := by decide +kernel
theorem dX5_readPower_19 : decode cX5_readPower 19 = .ok (.ireturn, 1) := by decide +kernel
theorem dX5_readPower_20 : decode cX5_readPower 20 = .ok (.aload_n 0, 1) := by decide +kernel
theorem dX5_readPower_21 : decode cX5_readPower 21 = .ok (.dup, 1) := by decide +kernel
theorem dX5_readPower_22 : decode cX5_readPower 22 = .ok (.getfield 33, 3) := by decide +kernel
theorem dX5_readPower_25 : decode cX5_readPower 25 = .ok (.iconst 1, 1) := by decide +kernel
theorem dX5_readPower_26 : decode cX5_readPower 26 = .ok (.iadd, 1) := by decide +kernel
theorem dX5_readPower_27 : decode cX5_readPower 27 = .ok (.putfield 33, 3) := by decide +kernel
theorem dX5_readPower_30 : decode cX5_readPower 30 = .ok (.iload_n 1, 1) := by decide +kernel
theorem dX5_readPower_31 : decode cX5_readPower 31 = .ok (.ireturn, 1) := by decide +kernel
set_option maxRecDepth 20000 in
theorem ggX5_readNumber_X5_isDigit : GoodIn wsX5_readNumber wsX5_isDigit := goodIn_r _ [14, 15, 16, 17] rfl (by decide +kernel)
set_option maxRecDepth 20000 in
theorem gX5_readNumber_X5_isDigit : GoodIn wsX5_readNumber (va_wsS RX5 48 yX5_isDigit wsX5_isDigit) := goodIn_app (goodIn_of _ (by decide +kernel)) ggX5_readNumber_X5_isDigit
theorem dX5_readNumber_0 : decode cX5_readNumber 0 = .ok (.lconst 0, 1) := by decide +kernel
theorem dX5_readNumber_1 : decode cX5_readNumber 1 = .ok (.lstore_n 1, 1) := by decide +kernel
theorem dX5_readNumber_2 : decode cX5_readNumber 2 = .ok (.aload_n 0, 1) := by decide +kernel
theorem dX5_readNumber_3 : decode cX5_readNumber 3 = .ok (.getfield 33, 3) := by decide +kernel
theorem dX5_readNumber_6 : decode cX5_readNumber 6 = .ok (.aload_n 0, 1) := by decide +kernel
theorem dX5_readNumber_7 : decode cX5_readNumber 7 = .ok (.getfield 23, 3) := by decide +kernel
theorem dX5_readNumber_10 : decode cX5_readNumber 10 = .ok (.if_icmp .ge 67, 3) := by decide +kernel
theorem dX5_readNumber_13 : decode cX5_readNumber 13 = .ok (.aload_n 0, 1) := by decide +kernel
theorem dX5_readNumber_14 : decode cX5_readNumber 14 = .ok (.getfield 33, 3) := by decide +kernel
theorem dX5_readNumber_17 : decode cX5_readNumber 17 = .ok (.bipush 90, 2) := by decide +kernel
theorem dX5_readNumber_19 : decode cX5_readNumber 19 = .ok (.if_icmp .ge 58, 3) := by decide +kernel
theorem dX5_readNumber_22 : decode cX5_readNumber 22 = .ok (.aload_n 0, 1) := by decide +kernel
theorem dX5_readNumber_23 : decode cX5_readNumber 23 = .ok (.getfield 11, 3) := by decide +kernel
theorem dX5_readNumber_26 : decode cX5_readNumber 26 = .ok (.aload_n 0, 1) := by decide +kernel
theorem dX5_readNumber_27 : decode cX5_readNumber 27 = .ok (.getfield 33, 3) := by decide +kernel
theorem dX5_readNumber_30 : decode cX5_readNumber 30 = .ok (.iaload, 1) := by decide +kernel
theorem dX5_readNumber_31 : decode cX5_readNumber 31 = .ok (.invokestatic 48, 3) := by decide +kernel
theorem dX5_readNumber_34 : decode cX5_readNumber 34 = .ok (.ifCond .eq 43, 3) := by decide +kernel
theorem dX5_readNumber_37 : decode cX5_readNumber 37 = .ok (.lload_n 1, 1) := by decide +kernel
theorem dX5_readNumber_38 : decode cX5_readNumber 38 = .ok (.ldc2_w 61, 3) := by decide +kernel
theorem dX5_readNumber_41 : decode cX5_readNumber 41 = .ok (.lmul, 1) := by decide +kernel
theorem dX5_readNumber_42 : decode cX5_readNumber 42 = .ok (.aload_n 0, 1) := by decide +kernel
theorem dX5_readNumber_43 : decode cX5_readNumber 43 = .ok (.getfield 11, 3) := by decide +kernel
theorem dX5_readNumber_46 : decode cX5_readNumber 46 = .ok (.aload_n 0, 1) := by decide +kernel
theorem dX5_readNumber_47 : decode cX5_readNumber 47 = .ok (.getfield 33, 3) := by decide +kernel
theorem dX5_readNumber_50 : decode cX5_readNumber 50 = .ok (.iaload, 1) := by decide +kernel
theorem dX5_readNumber_51 : decode cX5_readNumber 51 = .ok (.i2l, 1) := by decide +kernel
theorem dX5_readNumber_52 : decode cX5_readNumber 52 = .ok (.ladd, 1) := by decide +kernel
theorem dX5_readNumber_53 : decode cX5_readNumber 53 = .ok (.ldc2_w 63, 3) := by decide +kernel
theorem dX5_readNumber_56 : decode cX5_readNumber 56 = .ok (.lsub, 1) := by decide +kernel
theorem dX5_readNumber_57 : decode cX5_readNumber 57 = .ok (.ldc2_w 65, 3) := by decide +kernel
theorem dX5_readNumber_60 : decode cX5_readNumber 60 = .ok (.invokestatic 67, 3) := by decide +kernel
theorem dX5_readNumber_63 : decode cX5_readNumber 63 = .ok (.lstore_n 1, 1) := by decide +kernel
theorem dX5_readNumber_64 : decode cX5_readNumber 64 = .ok (.aload_n 0, 1) := by decide +kernel
theorem dX5_readNumber_65 : decode cX5_readNumber 65 = .ok (.dup, 1) := by decide +kernel
theorem dX5_readNumber_66 : decode cX5_readNumber 66 = .ok (.getfield 33, 3) := by decide +kernel
theorem dX5_readNumber_69 : decode cX5_readNumber 69 = .ok (.iconst 1, 1) := by decide +kernel
theorem dX5_readNumber_70 : decode cX5_readNumber 70 = .ok (.iadd, 1) := by decide +kernel
theorem dX5_readNumber_71 : decode cX5_readNumber 71 = .ok (.putfield 33, 3) := by decide +kernel
theorem dX5_readNumber_74 : decode cX5_readNumber 74 = .ok (.goto (-72), 3) := by decide +kernel
theorem dX5_readNumber_77 : decode cX5_readNumber 77 = .ok (.lload_n 1, 1) := by decide +kernel
theorem dX5_readNumber_78 : decode cX5_readNumber 78 = .ok (.lreturn, 1) := by decide +kernel
theorem dX5_next_0 : decode cX5_next 0 = .ok (.aload_n 0, 1) := by decide +kernel
theorem dX5_next_1 : decode cX5_next 1 = .ok (.getfield 33, 3) := by decide +kernel
theorem dX5_next_4 : decode cX5_next 4 = .ok (.aload_n 0, 1) := by decide +kernel
theorem dX5_next_5 : decode cX5_next 5 = .ok (.getfield 23, 3) := by decide +kernel
theorem dX5_next_8 : decode cX5_next 8 = .ok (.if_icmp .ge 39, 3) := by decide +kernel
theorem dX5_next_11 : decode cX5_next 11 = .ok (.aload_n 0, 1) := by decide +kernel
theorem dX5_next_12 : decode cX5_next 12 = .ok (.getfield 33, 3) := by decide +kernel
theorem dX5_next_15 : decode cX5_next 15 = .ok (.bipush 90, 2) := by decide +kernel
theorem dX5_next_17 : decode cX5_next 17 = .ok (.if_icmp .ge 30, 3) := by decide +kernel
theorem dX5_next_20 : decode cX5_next 20 = .ok (.aload_n 0, 1) := by decide +kernel
theorem dX5_next_21 : decode cX5_next 21 = .ok (.getfield 11, 3) := by decide +kernel
theorem dX5_next_24 : decode cX5_next 24 = .ok (.aload_n 0, 1) := by decide +kernel
theorem dX5_next_25 : decode cX5_next 25 = .ok (.getfield 33, 3) := by decide +kernel
theorem dX5_next_28 : decode cX5_next 28 = .ok (.iaload, 1) := by decide +kernel
theorem dX5_next_29 : decode cX5_next 29 = .ok (.bipush 32, 2) := by decide +kernel
theorem dX5_next_31 : decode cX5_next 31 = .ok (.if_icmp .ne 16, 3) := by decide +kernel
theorem dX5_next_34 : decode cX5_next 34 = .ok (.aload_n 0, 1) := by decide +kernel
theorem dX5_next_35 : decode cX5_next 35 = .ok (.dup, 1) := by decide +kernel
theorem dX5_next_36 : decode cX5_next 36 = .ok (.getfield 33, 3) := by decide +kernel
theorem dX5_next_39 : decode cX5_next 39 = .ok (.iconst 1, 1) := by decide +kernel
theorem dX5_next_40 : decode cX5_next 40 = .ok (.iadd, 1) := by decide +kernel
theorem dX5_next_41 : decode cX5_next 41 = .ok (.putfield 33, 3) := by decide +kernel
theorem dX5_next_44 : decode cX5_next 44 = .ok (.goto (-44), 3) := by decide +kernel
theorem dX5_next_47 : decode cX5_next 47 = .ok (.aload_n 0, 1) := by decide +kernel
theorem dX5_next_48 : decode cX5_next 48 = .ok (.getfield 33, 3) := by decide +kernel
theorem dX5_next_51 : decode cX5_next 51 = .ok (.ifCond .lt 35, 3) := by decide +kernel
theorem dX5_next_54 : decode cX5_next 54 = .ok (.aload_n 0, 1) := by decide +kernel
theorem dX5_next_55 : decode cX5_next 55 = .ok (.getfield 33, 3) := by decide +kernel
theorem dX5_next_58 : decode cX5_next 58 = .ok (.aload_n 0, 1) := by decide +kernel
theorem dX5_next_59 : decode cX5_next 59 = .ok (.getfield 23, 3) := by decide +kernel
theorem dX5_next_62 : decode cX5_next 62 = .ok (.if_icmp .ge 24, 3) := by decide +kernel
theorem dX5_next_65 : decode cX5_next 65 = .ok (.aload_n 0, 1) := by decide +kernel
theorem dX5_next_66 : decode cX5_next 66 = .ok (.getfield 33, 3) := by decide +kernel
theorem dX5_next_69 : decode cX5_next 69 = .ok (.bipush 90, 2) := by decide +kernel
theorem dX5_next_71 : decode cX5_next 71 = .ok (.if_icmp .ge 15, 3) := by decide +kernel
theorem dX5_next_74 : decode cX5_next 74 = .ok (.aload_n 0, 1) := by decide +kernel
theorem dX5_next_75 : decode cX5_next 75 = .ok (.getfield 11, 3) := by decide +kernel
theorem dX5_next_78 : decode cX5_next 78 = .ok (.aload_n 0, 1) := by decide +kernel
theorem dX5_next_79 : decode cX5_next 79 = .ok (.getfield 33, 3) := by decide +kernel
theorem dX5_next_82 : decode cX5_next 82 = .ok (.iaload, 1) := by decide +kernel
theorem dX5_next_83 : decode cX5_next 83 = .ok (.goto 4, 3) := by decide +kernel
theorem dX5_next_86 : decode cX5_next 86 = .ok (.iconst (-1), 1) := by decide +kernel
theorem dX5_next_87 : decode cX5_next 87 = .ok (.ireturn, 1) := by decide +kernel
set_option maxRecDepth 20000 in
theorem ggX5_isDigit_X7_within : GoodIn wsX5_isDigit wsX7_within := goodIn_r _ [3] rfl (by decide +kernel)
set_option maxRecDepth 20000 in
theorem gX5_isDigit_X7_within_n19 : GoodIn wsX5_isDigit (wsX7_within) := ggX5_isDigit_X7_within
theorem dX5_isDigit_0 : decode cX5_isDigit 0 = .ok (.iload_n 0, 1) := by decide +kernel
theorem dX5_isDigit_1 : decode cX5_isDigit 1 = .ok (.bipush 48, 2) := by decide +kernel
theorem dX5_isDigit_3 : decode cX5_isDigit 3 = .ok (.bipush 57, 2) := by decide +kernel
theorem dX5_isDigit_5 : decode cX5_isDigit 5 = .ok (.invokestatic 19, 3) := by decide +kernel
theorem dX5_isDigit_8 : decode cX5_isDigit 8 = .ok (.ireturn, 1) := by decide +kernel
theorem dX6_divisor_0 : decode cX6_divisor 0 = .ok (.lload_n 0, 1) := by decide +kernel
theorem dX6_divisor_1 : decode cX6_divisor 1 = .ok (.invokestatic 7, 3) := by decide +kernel
theorem dX6_divisor_4 : decode cX6_divisor 4 = .ok (.lstore 4, 2) := by decide +kernel
theorem dX6_divisor_6 : decode cX6_divisor 6 = .ok (.lload_n 2, 1) := by decide +kernel
theorem dX6_divisor_7 : decode cX6_divisor 7 = .ok (.invokestatic 7, 3) := by decide +kernel
theorem dX6_divisor_10 : decode cX6_divisor 10 = .ok (.lstore 6, 2) := by decide +kernel
theorem dX6_divisor_12 : decode cX6_divisor 12 = .ok (.iconst 0, 1) := by decide +kernel
theorem dX6_divisor_13 : decode cX6_divisor 13 = .ok (.istore 8, 2) := by decide +kernel
theorem dX6_divisor_15 : decode cX6_divisor 15 = .ok (.lload 6, 2) := by decide +kernel
theorem dX6_divisor_17 : decode cX6_divisor 17 = .ok (.lconst 0, 1) := by decide +kernel
theorem dX6_divisor_18 : decode cX6_divisor 18 = .ok (.lcmp, 1) := by decide +kernel
theorem dX6_divisor_19 : decode cX6_divisor 19 = .ok (.ifCond .eq 31, 3) := by decide +kernel
theorem dX6_divisor_22 : decode cX6_divisor 22 = .ok (.iload 8, 2) := by decide +kernel
theorem dX6_divisor_24 : decode cX6_divisor 24 = .ok (.bipush 100, 2) := by decide +kernel
theorem dX6_divisor_26 : decode cX6_divisor 26 = .ok (.if_icmp .ge 24, 3) := by decide +kernel
theorem dX6_divisor_29 : decode cX6_divisor 29 = .ok (.lload 4, 2) := by decide +kernel
theorem dX6_divisor_31 : decode cX6_divisor 31 = .ok (.lload 6, 2) := by decide +kernel
theorem dX6_divisor_33 : decode cX6_divisor 33 = .ok (.lrem, 1) := by decide +kernel
theorem dX6_divisor_34 : decode cX6_divisor 34 = .ok (.lstore 9, 2) := by decide +kernel
theorem dX6_divisor_36 : decode cX6_divisor 36 = .ok (.lload 6, 2) := by decide +kernel
theorem dX6_divisor_38 : decode cX6_divisor 38 = .ok (.lstore 4, 2) := by decide +kernel
theorem dX6_divisor_40 : decode cX6_divisor 40 = .ok (.lload 9, 2) := by decide +kernel
theorem dX6_divisor_42 : decode cX6_divisor 42 = .ok (.lstore 6, 2) := by decide +kernel
theorem dX6_divisor_44 : decode cX6_divisor 44 = .ok (.iinc 8 1, 3) := by decide +kernel
theorem dX6_divisor_47 : decode cX6_divisor 47 = .ok (.goto (-32), 3) := by decide +kernel
theorem dX6_divisor_50 : decode cX6_divisor 50 = .ok (.lload 4, 2) := by decide +kernel
theorem dX6_divisor_52 : decode cX6_divisor 52 = .ok (.lreturn, 1) := by decide +kernel
set_option maxRecDepth 20000 in
theorem ggX6_takeOffDivisor_X6_divisor : GoodIn wsX6_takeOffDivisor wsX6_divisor := goodIn_r _ [4, 5, 6, 7, 8] rfl (by decide +kernel)
set_option maxRecDepth 20000 in
theorem gX6_takeOffDivisor_X6_divisor : GoodIn wsX6_takeOffDivisor (va_wsS RX6 15 yX6_divisor wsX6_divisor) := goodIn_app (goodIn_of _ (by decide +kernel)) ggX6_takeOffDivisor_X6_divisor
theorem dX6_takeOffDivisor_0 : decode cX6_takeOffDivisor 0 = .ok (.lconst 0, 1) := by decide +kernel
theorem dX6_takeOffDivisor_1 : decode cX6_takeOffDivisor 1 = .ok (.lstore_n 1, 1) := by decide +kernel
theorem dX6_takeOffDivisor_2 : decode cX6_takeOffDivisor 2 = .ok (.iconst 0, 1) := by decide +kernel
theorem dX6_takeOffDivisor_3 : decode cX6_takeOffDivisor 3 = .ok (.istore_n 3, 1) := by decide +kernel
theorem dX6_takeOffDivisor_4 : decode cX6_takeOffDivisor 4 = .ok (.iload_n 3, 1) := by decide +kernel
theorem dX6_takeOffDivisor_5 : decode cX6_takeOffDivisor 5 = .ok (.aload_n 0, 1) := by decide +kernel
theorem dX6_takeOffDivisor_6 : decode cX6_takeOffDivisor 6 = .ok (.arraylength, 1) := by decide +kernel
theorem dX6_takeOffDivisor_7 : decode cX6_takeOffDivisor 7 = .ok (.if_icmp .ge 17, 3) := by decide +kernel
theorem dX6_takeOffDivisor_10 : decode cX6_takeOffDivisor 10 = .ok (.lload_n 1, 1) := by decide +kernel
theorem dX6_takeOffDivisor_11 : decode cX6_takeOffDivisor 11 = .ok (.aload_n 0, 1) := by decide +kernel
theorem dX6_takeOffDivisor_12 : decode cX6_takeOffDivisor 12 = .ok (.iload_n 3, 1) := by decide +kernel
theorem dX6_takeOffDivisor_13 : decode cX6_takeOffDivisor 13 = .ok (.laload, 1) := by decide +kernel
theorem dX6_takeOffDivisor_14 : decode cX6_takeOffDivisor 14 = .ok (.invokestatic 15, 3) := by decide +kernel
theorem dX6_takeOffDivisor_17 : decode cX6_takeOffDivisor 17 = .ok (.lstore_n 1, 1) := by decide +kernel
theorem dX6_takeOffDivisor_18 : decode cX6_takeOffDivisor 18 = .ok (.iinc 3 1, 3) := by decide +kernel
theorem dX6_takeOffDivisor_21 : decode cX6_takeOffDivisor 21 = .ok (.goto (-17), 3) := by decide +kernel
theorem dX6_takeOffDivisor_24 : decode cX6_takeOffDivisor 24 = .ok (.lload_n 1, 1) := by decide +kernel
theorem dX6_takeOffDivisor_25 : decode cX6_takeOffDivisor 25 = .ok (.lconst 1, 1) := by decide +kernel
theorem dX6_takeOffDivisor_26 : decode cX6_takeOffDivisor 26 = .ok (.lcmp, 1) := by decide +kernel
theorem dX6_takeOffDivisor_27 : decode cX6_takeOffDivisor 27 = .ok (.ifCond .le 24, 3) := by decide +kernel
theorem dX6_takeOffDivisor_30 : decode cX6_takeOffDivisor 30 = .ok (.iconst 0, 1) := by decide +kernel
theorem dX6_takeOffDivisor_31 : decode cX6_takeOffDivisor 31 = .ok (.istore_n 3, 1) := by decide +kernel
theorem dX6_takeOffDivisor_32 : decode cX6_takeOffDivisor 32 = .ok (.iload_n 3, 1) := by decide +kernel
theorem dX6_takeOffDivisor_33 : decode cX6_takeOffDivisor 33 = .ok (.aload_n 0, 1) := by decide +kernel
theorem dX6_takeOffDivisor_34 : decode cX6_takeOffDivisor 34 = .ok (.arraylength, 1) := by decide +kernel
theorem dX6_takeOffDivisor_35 : decode cX6_takeOffDivisor 35 = .ok (.if_icmp .ge 16, 3) := by decide +kernel
theorem dX6_takeOffDivisor_38 : decode cX6_takeOffDivisor 38 = .ok (.aload_n 0, 1) := by decide +kernel
theorem dX6_takeOffDivisor_39 : decode cX6_takeOffDivisor 39 = .ok (.iload_n 3, 1) := by decide +kernel
theorem dX6_takeOffDivisor_40 : decode cX6_takeOffDivisor 40 = .ok (.dup2, 1) := by decide +kernel
theorem dX6_takeOffDivisor_41 : decode cX6_takeOffDivisor 41 = .ok (.laload, 1) := by decide +kernel
theorem dX6_takeOffDivisor_42 : decode cX6_takeOffDivisor 42 = .ok (.lload_n 1, 1) := by decide +kernel
theorem dX6_takeOffDivisor_43 : decode cX6_takeOffDivisor 43 = .ok (.ldiv, 1) := by decide +kernel
theorem dX6_takeOffDivisor_44 : decode cX6_takeOffDivisor 44 = .ok (.lastore, 1) := by decide +kernel
theorem dX6_takeOffDivisor_45 : decode cX6_takeOffDivisor 45 = .ok (.iinc 3 1, 3) := by decide +kernel
theorem dX6_takeOffDivisor_48 : decode cX6_takeOffDivisor 48 = .ok (.goto (-16), 3) := by decide +kernel
theorem dX6_takeOffDivisor_51 : decode cX6_takeOffDivisor 51 = .ok (.return_, 1) := by decide +kernel
theorem dX6_first_0 : decode cX6_first 0 = .ok (.iconst 0, 1) := by decide +kernel
theorem dX6_first_1 : decode cX6_first 1 = .ok (.istore_n 1, 1) := by decide +kernel
theorem dX6_first_2 : decode cX6_first 2 = .ok (.iload_n 1, 1) := by decide +kernel
theorem dX6_first_3 : decode cX6_first 3 = .ok (.aload_n 0, 1) := by decide +kernel
theorem dX6_first_4 : decode cX6_first 4 = .ok (.arraylength, 1) := by decide +kernel
theorem dX6_first_5 : decode cX6_first 5 = .ok (.if_icmp .ge 19, 3) := by decide +kernel
theorem dX6_first_8 : decode cX6_first 8 = .ok (.aload_n 0, 1) := by decide +kernel
theorem dX6_first_9 : decode cX6_first 9 = .ok (.iload_n 1, 1) := by decide +kernel
theorem dX6_first_10 : decode cX6_first 10 = .ok (.laload, 1) := by decide +kernel
theorem dX6_first_11 : decode cX6_first 11 = .ok (.lconst 0, 1) := by decide +kernel
theorem dX6_first_12 : decode cX6_first 12 = .ok (.lcmp, 1) := by decide +kernel
theorem dX6_first_13 : decode cX6_first 13 = .ok (.ifCond .eq 5, 3) := by decide +kernel
theorem dX6_first_16 : decode cX6_first 16 = .ok (.iload_n 1, 1) := by decide +kernel
theorem dX6_first_17 : decode cX6_first 17 = .ok (.ireturn, 1) := by decide +kernel
theorem dX6_first_18 : decode cX6_first 18 = .ok (.iinc 1 1, 3) := by decide +kernel
theorem dX6_first_21 : decode cX6_first 21 = .ok (.goto (-19), 3) := by decide +kernel
theorem dX6_first_24 : decode cX6_first 24 = .ok (.iconst (-1), 1) := by decide +kernel
theorem dX6_first_25 : decode cX6_first 25 = .ok (.ireturn, 1) := by decide +kernel
theorem dX6_last_0 : decode cX6_last 0 = .ok (.aload_n 0, 1) := by decide +kernel
theorem dX6_last_1 : decode cX6_last 1 = .ok (.arraylength, 1) := by decide +kernel
theorem dX6_last_2 : decode cX6_last 2 = .ok (.iconst 1, 1) := by decide +kernel
theorem dX6_last_3 : decode cX6_last 3 = .ok (.isub, 1) := by decide +kernel
theorem dX6_last_4 : decode cX6_last 4 = .ok (.istore_n 1, 1) := by decide +kernel
theorem dX6_last_5 : decode cX6_last 5 = .ok (.iload_n 1, 1) := by decide +kernel
theorem dX6_last_6 : decode cX6_last 6 = .ok (.ifCond .lt 19, 3) := by decide +kernel
theorem dX6_last_9 : decode cX6_last 9 = .ok (.aload_n 0, 1) := by decide +kernel
theorem dX6_last_10 : decode cX6_last 10 = .ok (.iload_n 1, 1) := by decide +kernel
theorem dX6_last_11 : decode cX6_last 11 = .ok (.laload, 1) := by decide +kernel
theorem dX6_last_12 : decode cX6_last 12 = .ok (.lconst 0, 1) := by decide +kernel
theorem dX6_last_13 : decode cX6_last 13 = .ok (.lcmp, 1) := by decide +kernel
theorem dX6_last_14 : decode cX6_last 14 = .ok (.ifCond .eq 5, 3) := by decide +kernel
theorem dX6_last_17 : decode cX6_last 17 = .ok (.iload_n 1, 1) := by decide +kernel
theorem dX6_last_18 : decode cX6_last 18 = .ok (.ireturn, 1) := by decide +kernel
theorem dX6_last_19 : decode cX6_last 19 = .ok (.iinc 1 (-1), 3) := by decide +kernel
theorem dX6_last_22 : decode cX6_last 22 = .ok (.goto (-17), 3) := by decide +kernel
theorem dX6_last_25 : decode cX6_last 25 = .ok (.iconst (-1), 1) := by decide +kernel
theorem dX6_last_26 : decode cX6_last 26 = .ok (.ireturn, 1) := by decide +kernel
theorem dX6_turn_0 : decode cX6_turn 0 = .ok (.iload_n 1, 1) := by decide +kernel
theorem dX6_turn_1 : decode cX6_turn 1 = .ok (.ifCond .lt 17, 3) := by decide +kernel
theorem dX6_turn_4 : decode cX6_turn 4 = .ok (.iload_n 1, 1) := by decide +kernel
theorem dX6_turn_5 : decode cX6_turn 5 = .ok (.aload_n 0, 1) := by decide +kernel
theorem dX6_turn_6 : decode cX6_turn 6 = .ok (.arraylength, 1) := by decide +kernel
theorem dX6_turn_7 : decode cX6_turn 7 = .ok (.if_icmp .ge 11, 3) := by decide +kernel
theorem dX6_turn_10 : decode cX6_turn 10 = .ok (.aload_n 0, 1) := by decide +kernel
theorem dX6_turn_11 : decode cX6_turn 11 = .ok (.iload_n 1, 1) := by decide +kernel
theorem dX6_turn_12 : decode cX6_turn 12 = .ok (.laload, 1) := by decide +kernel
theorem dX6_turn_13 : decode cX6_turn 13 = .ok (.lconst 0, 1) := by decide +kernel
theorem dX6_turn_14 : decode cX6_turn 14 = .ok (.lcmp, 1) := by decide +kernel
theorem dX6_turn_15 : decode cX6_turn 15 = .ok (.ifCond .lt 4, 3) := by decide +kernel
theorem dX6_turn_18 : decode cX6_turn 18 = .ok (.return_, 1) := by decide +kernel
theorem dX6_turn_19 : decode cX6_turn 19 = .ok (.iconst 0, 1) := by decide +kernel
theorem dX6_turn_20 : decode cX6_turn 20 = .ok (.istore_n 2, 1) := by decide +kernel
theorem dX6_turn_21 : decode cX6_turn 21 = .ok (.iload_n 2, 1) := by decide +kernel
theorem dX6_turn_22 : decode cX6_turn 22 = .ok (.aload_n 0, 1) := by decide +kernel
theorem dX6_turn_23 : decode cX6_turn 23 = .ok (.arraylength, 1) := by decide +kernel
theorem dX6_turn_24 : decode cX6_turn 24 = .ok (.if_icmp .ge 16, 3) := by decide +kernel
theorem dX6_turn_27 : decode cX6_turn 27 = .ok (.aload_n 0, 1) := by decide +kernel
theorem dX6_turn_28 : decode cX6_turn 28 = .ok (.iload_n 2, 1) := by decide +kernel
theorem dX6_turn_29 : decode cX6_turn 29 = .ok (.aload_n 0, 1) := by decide +kernel
theorem dX6_turn_30 : decode cX6_turn 30 = .ok (.iload_n 2, 1) := by decide +kernel
theorem dX6_turn_31 : decode cX6_turn 31 = .ok (.laload, 1) := by decide +kernel
theorem dX6_turn_32 : decode cX6_turn 32 = .ok (.lneg, 1) := by decide +kernel
theorem dX6_turn_33 : decode cX6_turn 33 = .ok (.lastore, 1) := by decide +kernel
theorem dX6_turn_34 : decode cX6_turn 34 = .ok (.iinc 2 1, 3) := by decide +kernel
theorem dX6_turn_37 : decode cX6_turn 37 = .ok (.goto (-16), 3) := by decide +kernel
theorem dX6_turn_40 : decode cX6_turn 40 = .ok (.return_, 1) := by decide +kernel
theorem dX6_widest_0 : decode cX6_widest 0 = .ok (.lconst 0, 1) := by decide +kernel
theorem dX6_widest_1 : decode cX6_widest 1 = .ok (.lstore_n 1, 1) := by decide +kernel
theorem dX6_widest_2 : decode cX6_widest 2 = .ok (.iconst 0, 1) := by decide +kernel
theorem dX6_widest_3 : decode cX6_widest 3 = .ok (.istore_n 3, 1) := by decide +kernel
theorem dX6_widest_4 : decode cX6_widest 4 = .ok (.iload_n 3, 1) := by decide +kernel
theorem dX6_widest_5 : decode cX6_widest 5 = .ok (.aload_n 0, 1) := by decide +kernel
theorem dX6_widest_6 : decode cX6_widest 6 = .ok (.arraylength, 1) := by decide +kernel
theorem dX6_widest_7 : decode cX6_widest 7 = .ok (.if_icmp .ge 20, 3) := by decide +kernel
theorem dX6_widest_10 : decode cX6_widest 10 = .ok (.lload_n 1, 1) := by decide +kernel
theorem dX6_widest_11 : decode cX6_widest 11 = .ok (.aload_n 0, 1) := by decide +kernel
theorem dX6_widest_12 : decode cX6_widest 12 = .ok (.iload_n 3, 1) := by decide +kernel
theorem dX6_widest_13 : decode cX6_widest 13 = .ok (.laload, 1) := by decide +kernel
theorem dX6_widest_14 : decode cX6_widest 14 = .ok (.invokestatic 7, 3) := by decide +kernel
theorem dX6_widest_17 : decode cX6_widest 17 = .ok (.invokestatic 19, 3) := by decide +kernel
theorem dX6_widest_20 : decode cX6_widest 20 = .ok (.lstore_n 1, 1) := by decide +kernel
theorem dX6_widest_21 : decode cX6_widest 21 = .ok (.iinc 3 1, 3) := by decide +kernel
theorem dX6_widest_24 : decode cX6_widest 24 = .ok (.goto (-20), 3) := by decide +kernel
theorem dX6_widest_27 : decode cX6_widest 27 = .ok (.lload_n 1, 1) := by decide +kernel
theorem dX6_widest_28 : decode cX6_widest 28 = .ok (.lreturn, 1) := by decide +kernel
theorem dX6_alike_0 : decode cX6_alike 0 = .ok (.aload_n 0, 1) := by decide +kernel
theorem dX6_alike_1 : decode cX6_alike 1 = .ok (.arraylength, 1) := by decide +kernel
theorem dX6_alike_2 : decode cX6_alike 2 = .ok (.aload_n 1, 1) := by decide +kernel
theorem dX6_alike_3 : decode cX6_alike 3 = .ok (.arraylength, 1) := by decide +kernel
theorem dX6_alike_4 : decode cX6_alike 4 = .ok (.if_icmp .eq 5, 3) := by decide +kernel
theorem dX6_alike_7 : decode cX6_alike 7 = .ok (.iconst 0, 1) := by decide +kernel
theorem dX6_alike_8 : decode cX6_alike 8 = .ok (.ireturn, 1) := by decide +kernel
theorem dX6_alike_9 : decode cX6_alike 9 = .ok (.iconst 0, 1) := by decide +kernel
theorem dX6_alike_10 : decode cX6_alike 10 = .ok (.istore_n 2, 1) := by decide +kernel
theorem dX6_alike_11 : decode cX6_alike 11 = .ok (.iload_n 2, 1) := by decide +kernel
theorem dX6_alike_12 : decode cX6_alike 12 = .ok (.aload_n 0, 1) := by decide +kernel
theorem dX6_alike_13 : decode cX6_alike 13 = .ok (.arraylength, 1) := by decide +kernel
theorem dX6_alike_14 : decode cX6_alike 14 = .ok (.if_icmp .ge 21, 3) := by decide +kernel
theorem dX6_alike_17 : decode cX6_alike 17 = .ok (.aload_n 0, 1) := by decide +kernel
theorem dX6_alike_18 : decode cX6_alike 18 = .ok (.iload_n 2, 1) := by decide +kernel
theorem dX6_alike_19 : decode cX6_alike 19 = .ok (.laload, 1) := by decide +kernel
theorem dX6_alike_20 : decode cX6_alike 20 = .ok (.aload_n 1, 1) := by decide +kernel
theorem dX6_alike_21 : decode cX6_alike 21 = .ok (.iload_n 2, 1) := by decide +kernel
theorem dX6_alike_22 : decode cX6_alike 22 = .ok (.laload, 1) := by decide +kernel
theorem dX6_alike_23 : decode cX6_alike 23 = .ok (.lcmp, 1) := by decide +kernel
theorem dX6_alike_24 : decode cX6_alike 24 = .ok (.ifCond .eq 5, 3) := by decide +kernel
theorem dX6_alike_27 : decode cX6_alike 27 = .ok (.iconst 0, 1) := by decide +kernel
theorem dX6_alike_28 : decode cX6_alike 28 = .ok (.ireturn, 1) := by decide +kernel
theorem dX6_alike_29 : decode cX6_alike 29 = .ok (.iinc 2 1, 3) := by decide +kernel
theorem dX6_alike_32 : decode cX6_alike 32 = .ok (.goto (-21), 3) := by decide +kernel
theorem dX6_alike_35 : decode cX6_alike 35 = .ok (.iconst 1, 1) := by decide +kernel
theorem dX6_alike_36 : decode cX6_alike 36 = .ok (.ireturn, 1) := by decide +kernel
set_option maxRecDepth 20000 in
theorem ggX7_init_X5_init : GoodIn wsX7_init wsX5_init := goodIn_r _ [29, 30, 2, 3, 31, 32, 60, 61, 62] rfl (by decide +kernel)
set_option maxRecDepth 20000 in
theorem gX7_init_X5_init_n9 : GoodIn wsX7_init (wsX5_init) := ggX7_init_X5_init
set_option maxRecDepth 20000 in
theorem ggX7_init_X1_init : GoodIn wsX7_init wsX1_init := goodIn_r _ [34, 35, 2, 3, 20, 36, 37, 38, 71, 72, 73] rfl (by decide +kernel)
set_option maxRecDepth 20000 in
theorem gX7_init_X1_init_n30 : GoodIn wsX7_init (wsX1_init) := ggX7_init_X1_init
set_option maxRecDepth 20000 in
theorem ggX7_init_X4_init : GoodIn wsX7_init wsX4_init := goodIn_r _ [40, 41, 2, 3, 20, 42, 43, 44, 45, 46, 47, 74, 75, 76, 77, 78, 79] rfl (by decide +kernel)
set_option maxRecDepth 20000 in
theorem gX7_init_X4_init_n37 : GoodIn wsX7_init (wsX4_init) := ggX7_init_X4_init
set_option maxRecDepth 20000 in
theorem ggX7_init_X0_init : GoodIn wsX7_init wsX0_init := goodIn_r _ [49, 50, 2, 3, 20, 51, 52, 53, 54, 80, 81, 82, 83, 84, 85, 86, 87] rfl (by decide +kernel)
set_option maxRecDepth 20000 in
theorem gX7_init_X0_init_n52 : GoodIn wsX7_init (wsX0_init) := ggX7_init_X0_init
set_option maxRecDepth 20000 in
theorem ggX7_init_X3_init : GoodIn wsX7_init wsX3_init := goodIn_r _ [56, 57, 2, 3, 20, 58, 59, 88, 89, 90] rfl (by decide +kernel)
set_option maxRecDepth 20000 in
theorem gX7_init_X3_init_n53 : GoodIn wsX7_init (wsX3_init) := ggX7_init_X3_init
theorem dX7_init_0 : decode cX7_init 0 = .ok (.aload_n 0, 1) := by decide +kernel
theorem dX7_init_1 : decode cX7_init 1 = .ok (.invokespecial 1, 3) := by decide +kernel
theorem dX7_init_4 : decode cX7_init 4 = .ok (.aload_n 0, 1) := by decide +kernel
theorem dX7_init_5 : decode cX7_init 5 = .ok (.new 7, 3) := by decide +kernel
theorem dX7_init_8 : decode cX7_init 8 = .ok (.dup, 1) := by decide +kernel
theorem dX7_init_9 : decode cX7_init 9 = .ok (.invokespecial 9, 3) := by decide +kernel
theorem dX7_init_12 : decode cX7_init 12 = .ok (.putfield 10, 3) := by decide +kernel
theorem dX7_init_15 : decode cX7_init 15 = .ok (.aload_n 0, 1) := by decide +kernel
theorem dX7_init_16 : decode cX7_init 16 = .ok (.iconst 4, 1) := by decide +kernel
theorem dX7_init_17 : decode cX7_init 17 = .ok (.anewarray 16, 3) := by decide +kernel
theorem dX7_init_20 : decode cX7_init 20 = .ok (.putfield 18, 3) := by decide +kernel
theorem dX7_init_23 : decode cX7_init 23 = .ok (.aload_n 0, 1) := by decide +kernel
theorem dX7_init_24 : decode cX7_init 24 = .ok (.iconst 4, 1) := by decide +kernel
theorem dX7_init_25 : decode cX7_init 25 = .ok (.anewarray 22, 3) := by decide +kernel
theorem dX7_init_28 : decode cX7_init 28 = .ok (.putfield 24, 3) := by decide +kernel
theorem dX7_init_31 : decode cX7_init 31 = .ok (.aload_n 0, 1) := by decide +kernel
theorem dX7_init_32 : decode cX7_init 32 = .ok (.new 28, 3) := by decide +kernel
theorem dX7_init_35 : decode cX7_init 35 = .ok (.dup, 1) := by decide +kernel
theorem dX7_init_36 : decode cX7_init 36 = .ok (.invokespecial 30, 3) := by decide +kernel
theorem dX7_init_39 : decode cX7_init 39 = .ok (.putfield 31, 3) := by decide +kernel
theorem dX7_init_42 : decode cX7_init 42 = .ok (.aload_n 0, 1) := by decide +kernel
theorem dX7_init_43 : decode cX7_init 43 = .ok (.new 35, 3) := by decide +kernel
theorem dX7_init_46 : decode cX7_init 46 = .ok (.dup, 1) := by decide +kernel
theorem dX7_init_47 : decode cX7_init 47 = .ok (.invokespecial 37, 3) := by decide +kernel
theorem dX7_init_50 : decode cX7_init 50 = .ok (.putfield 38, 3) := by decide +kernel
theorem dX7_init_53 : decode cX7_init 53 = .ok (.aload_n 0, 1) := by decide +kernel
theorem dX7_init_54 : decode cX7_init 54 = .ok (.bipush 12, 2) := by decide +kernel
theorem dX7_init_56 : decode cX7_init 56 = .ok (.newarray .long, 2) := by decide +kernel
theorem dX7_init_58 : decode cX7_init 58 = .ok (.putfield 42, 3) := by decide +kernel
theorem dX7_init_61 : decode cX7_init 61 = .ok (.aload_n 0, 1) := by decide +kernel
theorem dX7_init_62 : decode cX7_init 62 = .ok (.iconst 4, 1) := by decide +kernel
theorem dX7_init_63 : decode cX7_init 63 = .ok (.newarray .long, 2) := by decide +kernel
theorem dX7_init_65 : decode cX7_init 65 = .ok (.putfield 46, 3) := by decide +kernel
theorem dX7_init_68 : decode cX7_init 68 = .ok (.aload_n 0, 1) := by decide +kernel
theorem dX7_init_69 : decode cX7_init 69 = .ok (.iconst 3, 1) := by decide +kernel
theorem dX7_init_70 : decode cX7_init 70 = .ok (.newarray .long, 2) := by decide +kernel
theorem dX7_init_72 : decode cX7_init 72 = .ok (.putfield 49, 3) := by decide +kernel
theorem dX7_init_75 : decode cX7_init 75 = .ok (.iconst 0, 1) := by decide +kernel
theorem dX7_init_76 : decode cX7_init 76 = .ok (.istore_n 1, 1) := by decide +kernel
theorem dX7_init_77 : decode cX7_init 77 = .ok (.iload_n 1, 1) := by decide +kernel
theorem dX7_init_78 : decode cX7_init 78 = .ok (.iconst 4, 1) := by decide +kernel
theorem dX7_init_79 : decode cX7_init 79 = .ok (.if_icmp .ge 22, 3) := by decide +kernel
theorem dX7_init_82 : decode cX7_init 82 = .ok (.aload_n 0, 1) := by decide +kernel
theorem dX7_init_83 : decode cX7_init 83 = .ok (.getfield 18, 3) := by decide +kernel
theorem dX7_init_86 : decode cX7_init 86 = .ok (.iload_n 1, 1) := by decide +kernel
theorem dX7_init_87 : decode cX7_init 87 = .ok (.new 16, 3) := by decide +kernel
theorem dX7_init_90 : decode cX7_init 90 = .ok (.dup, 1) := by decide +kernel
theorem dX7_init_91 : decode cX7_init 91 = .ok (.invokespecial 52, 3) := by decide +kernel
theorem dX7_init_94 : decode cX7_init 94 = .ok (.aastore, 1) := by decide +kernel
theorem dX7_init_95 : decode cX7_init 95 = .ok (.iinc 1 1, 3) := by decide +kernel
theorem dX7_init_98 : decode cX7_init 98 = .ok (.goto (-21), 3) := by decide +kernel
theorem dX7_init_101 : decode cX7_init 101 = .ok (.iconst 0, 1) := by decide +kernel
theorem dX7_init_102 : decode cX7_init 102 = .ok (.istore_n 1, 1) := by decide +kernel
theorem dX7_init_103 : decode cX7_init 103 = .ok (.iload_n 1, 1) := by decide +kernel
theorem dX7_init_104 : decode cX7_init 104 = .ok (.iconst 4, 1) := by decide +kernel
theorem dX7_init_105 : decode cX7_init 105 = .ok (.if_icmp .ge 22, 3) := by decide +kernel
theorem dX7_init_108 : decode cX7_init 108 = .ok (.aload_n 0, 1) := by decide +kernel
theorem dX7_init_109 : decode cX7_init 109 = .ok (.getfield 24, 3) := by decide +kernel
theorem dX7_init_112 : decode cX7_init 112 = .ok (.iload_n 1, 1) := by decide +kernel
theorem dX7_init_113 : decode cX7_init 113 = .ok (.new 22, 3) := by decide +kernel
theorem dX7_init_116 : decode cX7_init 116 = .ok (.dup, 1) := by decide +kernel
theorem dX7_init_117 : decode cX7_init 117 = .ok (.invokespecial 53, 3) := by decide +kernel
theorem dX7_init_120 : decode cX7_init 120 = .ok (.aastore, 1) := by decide +kernel
theorem dX7_init_121 : decode cX7_init 121 = .ok (.iinc 1 1, 3) := by decide +kernel
theorem dX7_init_124 : decode cX7_init 124 = .ok (.goto (-21), 3) := by decide +kernel
theorem dX7_init_127 : decode cX7_init 127 = .ok (.return_, 1) := by decide +kernel
set_option maxRecDepth 20000 in
theorem ggX7_type_X7_within : GoodIn wsX7_type wsX7_within := goodIn_r _ [6] rfl (by decide +kernel)
set_option maxRecDepth 20000 in
theorem gX7_type_X7_within : GoodIn wsX7_type (va_wsS RX7 54 yX7_within wsX7_within) := goodIn_app (goodIn_of _ (by decide +kernel)) ggX7_type_X7_within
set_option maxRecDepth 20000 in
theorem ggX7_type_X5_isText : GoodIn wsX7_type wsX5_isText := goodIn_r _ [10, 11, 12, 9, 13, 4, 5, 6] rfl (by decide +kernel)
set_option maxRecDepth 20000 in
theorem gX7_type_X5_isText : GoodIn wsX7_type (va_wsS RX7 58 yX5_isText wsX5_isText) := goodIn_app (goodIn_of _ (by decide +kernel)) ggX7_type_X5_isText
set_option maxRecDepth 20000 in
theorem ggX7_type_X5_append : GoodIn wsX7_type wsX5_append := goodIn_r _ [17, 18, 19, 11, 12, 9, 13, 28, 29, 30] rfl (by decide +kernel)
set_option maxRecDepth 20000 in
theorem gX7_type_X5_append : GoodIn wsX7_type (wsV RX7 62 RX5 yX5_append wsX5_append) := goodIn_app (goodIn_of _ (by decide +kernel)) ggX7_type_X5_append
theorem dX7_type_0 : decode cX7_type 0 = .ok (.iload_n 3, 1) := by decide +kernel
theorem dX7_type_1 : decode cX7_type 1 = .ok (.iconst 1, 1) := by decide +kernel
theorem dX7_type_2 : decode cX7_type 2 = .ok (.bipush 8, 2) := by decide +kernel
theorem dX7_type_4 : decode cX7_type 4 = .ok (.invokestatic 54, 3) := by decide +kernel
theorem dX7_type_7 : decode cX7_type 7 = .ok (.ifCond .eq 11, 3) := by decide +kernel
theorem dX7_type_10 : decode cX7_type 10 = .ok (.lload_n 1, 1) := by decide +kernel
theorem dX7_type_11 : decode cX7_type 11 = .ok (.iload_n 3, 1) := by decide +kernel
theorem dX7_type_12 : decode cX7_type 12 = .ok (.invokestatic 58, 3) := by decide +kernel
theorem dX7_type_15 : decode cX7_type 15 = .ok (.ifCond .ne 5, 3) := by decide +kernel
theorem dX7_type_18 : decode cX7_type 18 = .ok (.iconst (-1), 1) := by decide +kernel
theorem dX7_type_19 : decode cX7_type 19 = .ok (.ireturn, 1) := by decide +kernel
theorem dX7_type_20 : decode cX7_type 20 = .ok (.aload_n 0, 1) := by decide +kernel
theorem dX7_type_21 : decode cX7_type 21 = .ok (.getfield 10, 3) := by decide +kernel
theorem dX7_type_24 : decode cX7_type 24 = .ok (.lload_n 1, 1) := by decide +kernel
theorem dX7_type_25 : decode cX7_type 25 = .ok (.iload_n 3, 1) := by decide +kernel
theorem dX7_type_26 : decode cX7_type 26 = .ok (.invokevirtual 62, 3) := by decide +kernel
theorem dX7_type_29 : decode cX7_type 29 = .ok (.ifCond .eq 13, 3) := by decide +kernel
theorem dX7_type_32 : decode cX7_type 32 = .ok (.aload_n 0, 1) := by decide +kernel
theorem dX7_type_33 : decode cX7_type 33 = .ok (.getfield 10, 3) := by decide +kernel
theorem dX7_type_36 : decode cX7_type 36 = .ok (.getfield 65, 3) := by decide +kernel
theorem dX7_type_39 : decode cX7_type 39 = .ok (.goto 5, 3) := by decide +kernel
theorem dX7_type_42 : decode cX7_type 42 = .ok (.bipush (-3), 2) := by decide +kernel
theorem dX7_type_44 : decode cX7_type 44 = .ok (.ireturn, 1) := by decide +kernel
set_option maxRecDepth 20000 in
theorem ggX7_line_X7_isLine : GoodIn wsX7_line wsX7_isLine := goodIn_r _ [9, 10, 11, 8, 12] rfl (by decide +kernel)
set_option maxRecDepth 20000 in
theorem gX7_line_X7_isLine : GoodIn wsX7_line (va_wsS RX7 69 yX7_isLine wsX7_isLine) := goodIn_app (goodIn_of _ (by decide +kernel)) ggX7_line_X7_isLine
set_option maxRecDepth 20000 in
theorem ggX7_line_X5_read : GoodIn wsX7_line wsX5_read := goodIn_r _ [17, 18, 19, 20, 21, 22, 23, 24, 25, 16, 26, 27, 28, 29, 30, 31, 32, 33, 34, 35, 36, 37, 38, 39, 40, 11, 8, 12, 41, 42, 43, 44, 45, 46, 47, 48, 49, 50, 51, 52, 53, 54, 55, 248, 249, 250] rfl (by decide +kernel)
set_option maxRecDepth 20000 in
theorem gX7_line_X5_read : GoodIn wsX7_line (wsV RX7 73 RX5 yX5_read wsX5_read) := goodIn_app (goodIn_of _ (by decide +kernel)) ggX7_line_X5_read
set_option maxRecDepth 20000 in
theorem ggX7_line_X1_make : GoodIn wsX7_line wsX1_make := goodIn_r _ [60, 61, 62, 63, 64, 65, 66, 67, 68, 59, 69, 70, 71, 72, 73, 74, 20, 21, 22, 75, 76, 77, 78, 79, 80, 81, 82, 50, 83, 84, 85, 86, 87, 88, 89, 90, 91, 92, 93, 94, 95, 96, 97, 98, 99, 100, 101, 102, 103, 104, 105, 106, 107, 108, 109, 110, 251, 252, 253] rfl (by decide +kernel)
set_option maxRecDepth 20000 in
theorem gX7_line_X1_make : GoodIn wsX7_line (wsV RX7 80 RX1 yX1_make wsX1_make) := goodIn_app (goodIn_of _ (by decide +kernel)) ggX7_line_X1_make
set_option maxRecDepth 20000 in
theorem ggX7_line_X7_settle : GoodIn wsX7_line wsX7_settle := goodIn_r _ [114, 115, 2, 116, 117, 64, 65, 66, 118, 119, 120, 121, 122, 123, 124, 125, 126, 127, 128, 129, 130, 131, 132, 133, 134, 135, 136, 137, 138, 139, 140, 141, 142, 143, 144, 145, 146, 147, 148, 149, 150, 151, 152, 153, 154, 155, 156, 157, 158, 159, 160, 161, 162, 163, 164, 165, 166, 167, 168, 169, 170, 171, 172, 173, 174, 175, 72, 176, 177, 178, 179, 180, 181, 182, 183, 184, 20, 21, 22, 185, 186, 187, 188, 189, 190, 191, 192, 193, 194, 195, 196, 197, 198, 199, 200, 201, 50, 202, 203, 204, 205, 206, 76, 77, 78, 79, 80, 81, 82, 83, 207, 109, 110, 208, 209, 210, 211, 212, 213, 214, 215, 216, 217, 218, 219, 220, 221, 222, 223, 224, 225, 226, 227, 228, 229, 230, 231, 232, 233, 234, 235, 71, 73, 236, 237, 238, 239, 240, 241, 242, 243, 244, 245, 246, 247, 254, 255, 256, 257, 258, 259, 260, 261, 262, 263, 264, 265, 266, 267] rfl (by decide +kernel)
set_option maxRecDepth 20000 in
theorem gX7_line_X7_settle : GoodIn wsX7_line (wsV RX7 83 RX7 yX7_settle wsX7_settle) := goodIn_app (goodIn_of _ (by decide +kernel)) ggX7_line_X7_settle
theorem dX7_line_0 : decode cX7_line 0 = .ok (.iload_n 1, 1) := by decide +kernel
theorem dX7_line_1 : decode cX7_line 1 = .ok (.invokestatic 69, 3) := by decide +kernel
theorem dX7_line_4 : decode cX7_line 4 = .ok (.ifCond .ne 5, 3) := by decide +kernel
theorem dX7_line_7 : decode cX7_line 7 = .ok (.iconst (-1), 1) := by decide +kernel
theorem dX7_line_8 : decode cX7_line 8 = .ok (.ireturn, 1) := by decide +kernel
theorem dX7_line_9 : decode cX7_line 9 = .ok (.aload_n 0, 1) := by decide +kernel
theorem dX7_line_10 : decode cX7_line 10 = .ok (.getfield 10, 3) := by decide +kernel
theorem dX7_line_13 : decode cX7_line 13 = .ok (.aload_n 0, 1) := by decide +kernel
theorem dX7_line_14 : decode cX7_line 14 = .ok (.getfield 42, 3) := by decide +kernel
theorem dX7_line_17 : decode cX7_line 17 = .ok (.invokevirtual 73, 3) := by decide +kernel
theorem dX7_line_20 : decode cX7_line 20 = .ok (.istore_n 2, 1) := by decide +kernel
theorem dX7_line_21 : decode cX7_line 21 = .ok (.bipush (-20), 2) := by decide +kernel
theorem dX7_line_23 : decode cX7_line 23 = .ok (.aload_n 0, 1) := by decide +kernel
theorem dX7_line_24 : decode cX7_line 24 = .ok (.getfield 10, 3) := by decide +kernel
theorem dX7_line_27 : decode cX7_line 27 = .ok (.getfield 77, 3) := by decide +kernel
theorem dX7_line_30 : decode cX7_line 30 = .ok (.isub, 1) := by decide +kernel
theorem dX7_line_31 : decode cX7_line 31 = .ok (.istore_n 3, 1) := by decide +kernel
theorem dX7_line_32 : decode cX7_line 32 = .ok (.aload_n 0, 1) := by decide +kernel
theorem dX7_line_33 : decode cX7_line 33 = .ok (.getfield 10, 3) := by decide +kernel
theorem dX7_line_36 : decode cX7_line 36 = .ok (.iconst 0, 1) := by decide +kernel
theorem dX7_line_37 : decode cX7_line 37 = .ok (.putfield 65, 3) := by decide +kernel
theorem dX7_line_40 : decode cX7_line 40 = .ok (.iload_n 2, 1) := by decide +kernel
theorem dX7_line_41 : decode cX7_line 41 = .ok (.ifCond .ne 5, 3) := by decide +kernel
theorem dX7_line_44 : decode cX7_line 44 = .ok (.iload_n 3, 1) := by decide +kernel
theorem dX7_line_45 : decode cX7_line 45 = .ok (.ireturn, 1) := by decide +kernel
theorem dX7_line_46 : decode cX7_line 46 = .ok (.aload_n 0, 1) := by decide +kernel
theorem dX7_line_47 : decode cX7_line 47 = .ok (.getfield 31, 3) := by decide +kernel
theorem dX7_line_50 : decode cX7_line 50 = .ok (.aload_n 0, 1) := by decide +kernel
theorem dX7_line_51 : decode cX7_line 51 = .ok (.getfield 42, 3) := by decide +kernel
theorem dX7_line_54 : decode cX7_line 54 = .ok (.invokevirtual 80, 3) := by decide +kernel
theorem dX7_line_57 : decode cX7_line 57 = .ok (.ifCond .eq 11, 3) := by decide +kernel
theorem dX7_line_60 : decode cX7_line 60 = .ok (.aload_n 0, 1) := by decide +kernel
theorem dX7_line_61 : decode cX7_line 61 = .ok (.iload_n 1, 1) := by decide +kernel
theorem dX7_line_62 : decode cX7_line 62 = .ok (.invokevirtual 83, 3) := by decide +kernel
theorem dX7_line_65 : decode cX7_line 65 = .ok (.goto 5, 3) := by decide +kernel
theorem dX7_line_68 : decode cX7_line 68 = .ok (.bipush (-2), 2) := by decide +kernel
theorem dX7_line_70 : decode cX7_line 70 = .ok (.ireturn, 1) := by decide +kernel
set_option maxRecDepth 20000 in
theorem ggX7_drop_X7_missing : GoodIn wsX7_drop wsX7_missing := goodIn_r _ [8, 1, 2, 9, 10, 7, 11, 12, 13, 14, 15, 16, 17, 18, 19, 20, 21, 22, 23, 24, 25, 26, 27, 28, 29, 30] rfl (by decide +kernel)
set_option maxRecDepth 20000 in
theorem gX7_drop_X7_missing : GoodIn wsX7_drop (wsV RX7 87 RX7 yX7_missing wsX7_missing) := goodIn_app (goodIn_of _ (by decide +kernel)) ggX7_drop_X7_missing
theorem dX7_drop_0 : decode cX7_drop 0 = .ok (.aload_n 0, 1) := by decide +kernel
theorem dX7_drop_1 : decode cX7_drop 1 = .ok (.iload_n 1, 1) := by decide +kernel
theorem dX7_drop_2 : decode cX7_drop 2 = .ok (.invokevirtual 87, 3) := by decide +kernel
theorem dX7_drop_5 : decode cX7_drop 5 = .ok (.istore_n 2, 1) := by decide +kernel
theorem dX7_drop_6 : decode cX7_drop 6 = .ok (.iload_n 2, 1) := by decide +kernel
theorem dX7_drop_7 : decode cX7_drop 7 = .ok (.ifCond .eq 5, 3) := by decide +kernel
theorem dX7_drop_10 : decode cX7_drop 10 = .ok (.iload_n 2, 1) := by decide +kernel
theorem dX7_drop_11 : decode cX7_drop 11 = .ok (.ireturn, 1) := by decide +kernel
theorem dX7_drop_12 : decode cX7_drop 12 = .ok (.aload_n 0, 1) := by decide +kernel
theorem dX7_drop_13 : decode cX7_drop 13 = .ok (.getfield 18, 3) := by decide +kernel
theorem dX7_drop_16 : decode cX7_drop 16 = .ok (.iload_n 1, 1) := by decide +kernel
theorem dX7_drop_17 : decode cX7_drop 17 = .ok (.aaload, 1) := by decide +kernel
theorem dX7_drop_18 : decode cX7_drop 18 = .ok (.iconst 0, 1) := by decide +kernel
theorem dX7_drop_19 : decode cX7_drop 19 = .ok (.putfield 90, 3) := by decide +kernel
theorem dX7_drop_22 : decode cX7_drop 22 = .ok (.aload_n 0, 1) := by decide +kernel
theorem dX7_drop_23 : decode cX7_drop 23 = .ok (.getfield 18, 3) := by decide +kernel
theorem dX7_drop_26 : decode cX7_drop 26 = .ok (.iload_n 1, 1) := by decide +kernel
theorem dX7_drop_27 : decode cX7_drop 27 = .ok (.aaload, 1) := by decide +kernel
theorem dX7_drop_28 : decode cX7_drop 28 = .ok (.getfield 94, 3) := by decide +kernel
theorem dX7_drop_31 : decode cX7_drop 31 = .ok (.ireturn, 1) := by decide +kernel
set_option maxRecDepth 20000 in
theorem ggX7_kind_X7_missing : GoodIn wsX7_kind wsX7_missing := goodIn_r _ [7, 1, 8, 9, 10, 6, 11, 12, 13, 14, 15, 16, 17, 18, 19, 20, 21, 22, 23, 24, 25, 26, 27, 28, 29, 30] rfl (by decide +kernel)
set_option maxRecDepth 20000 in
theorem gX7_kind_X7_missing : GoodIn wsX7_kind (wsV RX7 87 RX7 yX7_missing wsX7_missing) := goodIn_app (goodIn_of _ (by decide +kernel)) ggX7_kind_X7_missing
theorem dX7_kind_0 : decode cX7_kind 0 = .ok (.aload_n 0, 1) := by decide +kernel
theorem dX7_kind_1 : decode cX7_kind 1 = .ok (.iload_n 1, 1) := by decide +kernel
theorem dX7_kind_2 : decode cX7_kind 2 = .ok (.invokevirtual 87, 3) := by decide +kernel
theorem dX7_kind_5 : decode cX7_kind 5 = .ok (.istore_n 2, 1) := by decide +kernel
theorem dX7_kind_6 : decode cX7_kind 6 = .ok (.iload_n 2, 1) := by decide +kernel
theorem dX7_kind_7 : decode cX7_kind 7 = .ok (.ifCond .eq 7, 3) := by decide +kernel
theorem dX7_kind_10 : decode cX7_kind 10 = .ok (.iload_n 2, 1) := by decide +kernel
theorem dX7_kind_11 : decode cX7_kind 11 = .ok (.goto 12, 3) := by decide +kernel
theorem dX7_kind_14 : decode cX7_kind 14 = .ok (.aload_n 0, 1) := by decide +kernel
theorem dX7_kind_15 : decode cX7_kind 15 = .ok (.getfield 18, 3) := by decide +kernel
theorem dX7_kind_18 : decode cX7_kind 18 = .ok (.iload_n 1, 1) := by decide +kernel
theorem dX7_kind_19 : decode cX7_kind 19 = .ok (.aaload, 1) := by decide +kernel
theorem dX7_kind_20 : decode cX7_kind 20 = .ok (.getfield 94, 3) := by decide +kernel
theorem dX7_kind_23 : decode cX7_kind 23 = .ok (.ireturn, 1) := by decide +kernel
set_option maxRecDepth 20000 in
theorem ggX7_degree_X7_missing : GoodIn wsX7_degree wsX7_missing := goodIn_r _ [7, 1, 8, 9, 10, 6, 11, 12, 13, 14, 15, 16, 17, 18, 19, 20, 21, 22, 23, 24, 25, 26, 27, 28, 29, 30] rfl (by decide +kernel)
set_option maxRecDepth 20000 in
theorem gX7_degree_X7_missing : GoodIn wsX7_degree (wsV RX7 87 RX7 yX7_missing wsX7_missing) := goodIn_app (goodIn_of _ (by decide +kernel)) ggX7_degree_X7_missing
theorem dX7_degree_0 : decode cX7_degree 0 = .ok (.aload_n 0, 1) := by decide +kernel
theorem dX7_degree_1 : decode cX7_degree 1 = .ok (.iload_n 1, 1) := by decide +kernel
theorem dX7_degree_2 : decode cX7_degree 2 = .ok (.invokevirtual 87, 3) := by decide +kernel
theorem dX7_degree_5 : decode cX7_degree 5 = .ok (.istore_n 2, 1) := by decide +kernel
theorem dX7_degree_6 : decode cX7_degree 6 = .ok (.iload_n 2, 1) := by decide +kernel
