theorem dX8_same_134 : decode cX8_same 134 = .ok (.istore 5, 2) := by decide +kernel
theorem dX8_same_136 : decode cX8_same 136 = .ok (.iload 5, 2) := by decide +kernel
theorem dX8_same_138 : decode cX8_same 138 = .ok (.bipush 10, 2) := by decide +kernel
theorem dX8_same_140 : decode cX8_same 140 = .ok (.if_icmp .ge 23, 3) := by decide +kernel
theorem dX8_same_143 : decode cX8_same 143 = .ok (.aload_n 0, 1) := by decide +kernel
theorem dX8_same_144 : decode cX8_same 144 = .ok (.getfield 51, 3) := by decide +kernel
theorem dX8_same_147 : decode cX8_same 147 = .ok (.iload 5, 2) := by decide +kernel
theorem dX8_same_149 : decode cX8_same 149 = .ok (.aload_n 0, 1) := by decide +kernel
theorem dX8_same_150 : decode cX8_same 150 = .ok (.getfield 39, 3) := by decide +kernel
theorem dX8_same_153 : decode cX8_same 153 = .ok (.iload 5, 2) := by decide +kernel
theorem dX8_same_155 : decode cX8_same 155 = .ok (.laload, 1) := by decide +kernel
theorem dX8_same_156 : decode cX8_same 156 = .ok (.lastore, 1) := by decide +kernel
theorem dX8_same_157 : decode cX8_same 157 = .ok (.iinc 5 1, 3) := by decide +kernel
theorem dX8_same_160 : decode cX8_same 160 = .ok (.goto (-24), 3) := by decide +kernel
theorem dX8_same_163 : decode cX8_same 163 = .ok (.aload_n 0, 1) := by decide +kernel
theorem dX8_same_164 : decode cX8_same 164 = .ok (.iload_n 2, 1) := by decide +kernel
theorem dX8_same_165 : decode cX8_same 165 = .ok (.invokevirtual 199, 3) := by decide +kernel
theorem dX8_same_168 : decode cX8_same 168 = .ok (.iconst 0, 1) := by decide +kernel
theorem dX8_same_169 : decode cX8_same 169 = .ok (.istore 5, 2) := by decide +kernel
theorem dX8_same_171 : decode cX8_same 171 = .ok (.iload 5, 2) := by decide +kernel
theorem dX8_same_173 : decode cX8_same 173 = .ok (.bipush 10, 2) := by decide +kernel
theorem dX8_same_175 : decode cX8_same 175 = .ok (.if_icmp .ge 39, 3) := by decide +kernel
theorem dX8_same_178 : decode cX8_same 178 = .ok (.iload 4, 2) := by decide +kernel
theorem dX8_same_180 : decode cX8_same 180 = .ok (.ifCond .eq 25, 3) := by decide +kernel
theorem dX8_same_183 : decode cX8_same 183 = .ok (.aload_n 0, 1) := by decide +kernel
theorem dX8_same_184 : decode cX8_same 184 = .ok (.getfield 51, 3) := by decide +kernel
theorem dX8_same_187 : decode cX8_same 187 = .ok (.iload 5, 2) := by decide +kernel
theorem dX8_same_189 : decode cX8_same 189 = .ok (.laload, 1) := by decide +kernel
theorem dX8_same_190 : decode cX8_same 190 = .ok (.aload_n 0, 1) := by decide +kernel
theorem dX8_same_191 : decode cX8_same 191 = .ok (.getfield 39, 3) := by decide +kernel
theorem dX8_same_194 : decode cX8_same 194 = .ok (.iload 5, 2) := by decide +kernel
theorem dX8_same_196 : decode cX8_same 196 = .ok (.laload, 1) := by decide +kernel
theorem dX8_same_197 : decode cX8_same 197 = .ok (.lcmp, 1) := by decide +kernel
theorem dX8_same_198 : decode cX8_same 198 = .ok (.ifCond .ne 7, 3) := by decide +kernel
theorem dX8_same_201 : decode cX8_same 201 = .ok (.iconst 1, 1) := by decide +kernel
theorem dX8_same_202 : decode cX8_same 202 = .ok (.goto 4, 3) := by decide +kernel
theorem dX8_same_205 : decode cX8_same 205 = .ok (.iconst 0, 1) := by decide +kernel
theorem dX8_same_206 : decode cX8_same 206 = .ok (.istore 4, 2) := by decide +kernel
theorem dX8_same_208 : decode cX8_same 208 = .ok (.iinc 5 1, 3) := by decide +kernel
theorem dX8_same_211 : decode cX8_same 211 = .ok (.goto (-40), 3) := by decide +kernel
theorem dX8_same_214 : decode cX8_same 214 = .ok (.iload 4, 2) := by decide +kernel
theorem dX8_same_216 : decode cX8_same 216 = .ok (.ifCond .eq 7, 3) := by decide +kernel
theorem dX8_same_219 : decode cX8_same 219 = .ok (.iconst 1, 1) := by decide +kernel
theorem dX8_same_220 : decode cX8_same 220 = .ok (.goto 4, 3) := by decide +kernel
theorem dX8_same_223 : decode cX8_same 223 = .ok (.iconst 0, 1) := by decide +kernel
theorem dX8_same_224 : decode cX8_same 224 = .ok (.ireturn, 1) := by decide +kernel
theorem dX8_times__0 : decode cX8_times_ 0 = .ok (.iconst 3, 1) := by decide +kernel
theorem dX8_times__1 : decode cX8_times_ 1 = .ok (.istore 5, 2) := by decide +kernel
theorem dX8_times__3 : decode cX8_times_ 3 = .ok (.iload 5, 2) := by decide +kernel
theorem dX8_times__5 : decode cX8_times_ 5 = .ok (.ifCond .lt 46, 3) := by decide +kernel
theorem dX8_times__8 : decode cX8_times_ 8 = .ok (.aload_n 0, 1) := by decide +kernel
theorem dX8_times__9 : decode cX8_times_ 9 = .ok (.getfield 23, 3) := by decide +kernel
theorem dX8_times__12 : decode cX8_times_ 12 = .ok (.iload 5, 2) := by decide +kernel
theorem dX8_times__14 : decode cX8_times_ 14 = .ok (.lload_n 3, 1) := by decide +kernel
theorem dX8_times__15 : decode cX8_times_ 15 = .ok (.aload_n 0, 1) := by decide +kernel
theorem dX8_times__16 : decode cX8_times_ 16 = .ok (.getfield 23, 3) := by decide +kernel
theorem dX8_times__19 : decode cX8_times_ 19 = .ok (.iload 5, 2) := by decide +kernel
theorem dX8_times__21 : decode cX8_times_ 21 = .ok (.laload, 1) := by decide +kernel
theorem dX8_times__22 : decode cX8_times_ 22 = .ok (.lmul, 1) := by decide +kernel
theorem dX8_times__23 : decode cX8_times_ 23 = .ok (.iload 5, 2) := by decide +kernel
theorem dX8_times__25 : decode cX8_times_ 25 = .ok (.ifCond .le 17, 3) := by decide +kernel
theorem dX8_times__28 : decode cX8_times_ 28 = .ok (.lload_n 1, 1) := by decide +kernel
theorem dX8_times__29 : decode cX8_times_ 29 = .ok (.aload_n 0, 1) := by decide +kernel
theorem dX8_times__30 : decode cX8_times_ 30 = .ok (.getfield 23, 3) := by decide +kernel
theorem dX8_times__33 : decode cX8_times_ 33 = .ok (.iload 5, 2) := by decide +kernel
theorem dX8_times__35 : decode cX8_times_ 35 = .ok (.iconst 1, 1) := by decide +kernel
theorem dX8_times__36 : decode cX8_times_ 36 = .ok (.isub, 1) := by decide +kernel
theorem dX8_times__37 : decode cX8_times_ 37 = .ok (.laload, 1) := by decide +kernel
theorem dX8_times__38 : decode cX8_times_ 38 = .ok (.lmul, 1) := by decide +kernel
theorem dX8_times__39 : decode cX8_times_ 39 = .ok (.goto 4, 3) := by decide +kernel
theorem dX8_times__42 : decode cX8_times_ 42 = .ok (.lconst 0, 1) := by decide +kernel
theorem dX8_times__43 : decode cX8_times_ 43 = .ok (.ladd, 1) := by decide +kernel
theorem dX8_times__44 : decode cX8_times_ 44 = .ok (.lastore, 1) := by decide +kernel
theorem dX8_times__45 : decode cX8_times_ 45 = .ok (.iinc 5 (-1), 3) := by decide +kernel
theorem dX8_times__48 : decode cX8_times_ 48 = .ok (.goto (-45), 3) := by decide +kernel
theorem dX8_times__51 : decode cX8_times_ 51 = .ok (.return_, 1) := by decide +kernel
set_option maxRecDepth 20000 in
theorem ggX8_anew_X8_in : GoodIn wsX8_anew wsX8_in := goodIn_r _ [9] rfl (by decide +kernel)
set_option maxRecDepth 20000 in
theorem gX8_anew_X8_in : GoodIn wsX8_anew (va_wsS RX8 79 yX8_in wsX8_in) := goodIn_app (goodIn_of _ (by decide +kernel)) ggX8_anew_X8_in
set_option maxRecDepth 20000 in
theorem ggX8_anew_X8_against : GoodIn wsX8_anew wsX8_against := goodIn_r _ [13, 14, 15, 16, 8, 17, 18, 6, 7, 9, 82, 83, 84, 85, 86, 87, 88, 89, 90, 91, 92, 93, 94, 95, 96, 97, 98, 99, 100] rfl (by decide +kernel)
set_option maxRecDepth 20000 in
theorem gX8_anew_X8_against : GoodIn wsX8_anew (wsV RX8 163 RX8 yX8_against wsX8_against) := goodIn_app (goodIn_of _ (by decide +kernel)) ggX8_anew_X8_against
set_option maxRecDepth 20000 in
theorem ggX8_anew_X8_degreeOf : GoodIn wsX8_anew wsX8_degreeOf := goodIn_r _ [22, 5, 23, 24, 8, 25, 82, 83, 84, 85, 86, 87, 88, 89, 90, 91, 92, 93, 94, 95, 96, 97, 98, 99, 100] rfl (by decide +kernel)
set_option maxRecDepth 20000 in
theorem gX8_anew_X8_degreeOf : GoodIn wsX8_anew (wsV RX8 111 RX8 yX8_degreeOf wsX8_degreeOf) := goodIn_app (goodIn_of _ (by decide +kernel)) ggX8_anew_X8_degreeOf
set_option maxRecDepth 20000 in
theorem ggX8_anew_X8_times_ : GoodIn wsX8_anew wsX8_times_ := goodIn_r _ [29, 4, 82, 83, 84, 85, 86, 87, 88, 89, 90, 91, 92, 93, 94, 95, 96, 97, 98, 99, 100] rfl (by decide +kernel)
set_option maxRecDepth 20000 in
theorem gX8_anew_X8_times_ : GoodIn wsX8_anew (wsV RX8 240 RX8 yX8_times_ wsX8_times_) := goodIn_app (goodIn_of _ (by decide +kernel)) ggX8_anew_X8_times_
set_option maxRecDepth 20000 in
theorem ggX8_anew_X8_keep : GoodIn wsX8_anew wsX8_keep := goodIn_r _ [33, 3, 34, 4, 35, 36, 5, 14, 23, 24, 8, 25, 37, 38, 39, 40, 41, 42, 43, 44, 45, 46, 47, 48, 49, 50, 51, 52, 53, 54, 55, 56, 57, 58, 59, 60, 6, 7, 9, 61, 62, 63, 64, 65, 66, 67, 68, 19, 20, 21, 22, 69, 70, 71, 72, 73, 74, 75, 76, 77, 78, 79, 80, 81, 82, 83, 84, 85, 86, 87, 88, 89, 90, 91, 92, 93, 94, 95, 96, 97, 98, 99, 100] rfl (by decide +kernel)
set_option maxRecDepth 20000 in
theorem gX8_anew_X8_keep : GoodIn wsX8_anew (wsV RX8 160 RX8 yX8_keep wsX8_keep) := goodIn_app (goodIn_of _ (by decide +kernel)) ggX8_anew_X8_keep
theorem dX8_anew_0 : decode cX8_anew 0 = .ok (.iload_n 2, 1) := by decide +kernel
theorem dX8_anew_1 : decode cX8_anew 1 = .ok (.i2l, 1) := by decide +kernel
theorem dX8_anew_2 : decode cX8_anew 2 = .ok (.ldc2_w 238, 3) := by decide +kernel
theorem dX8_anew_5 : decode cX8_anew 5 = .ok (.ldc2_w 217, 3) := by decide +kernel
theorem dX8_anew_8 : decode cX8_anew 8 = .ok (.invokestatic 79, 3) := by decide +kernel
theorem dX8_anew_11 : decode cX8_anew 11 = .ok (.ifCond .eq 62, 3) := by decide +kernel
theorem dX8_anew_14 : decode cX8_anew 14 = .ok (.iload_n 3, 1) := by decide +kernel
theorem dX8_anew_15 : decode cX8_anew 15 = .ok (.i2l, 1) := by decide +kernel
theorem dX8_anew_16 : decode cX8_anew 16 = .ok (.ldc2_w 238, 3) := by decide +kernel
theorem dX8_anew_19 : decode cX8_anew 19 = .ok (.ldc2_w 217, 3) := by decide +kernel
theorem dX8_anew_22 : decode cX8_anew 22 = .ok (.invokestatic 79, 3) := by decide +kernel
theorem dX8_anew_25 : decode cX8_anew 25 = .ok (.ifCond .eq 48, 3) := by decide +kernel
theorem dX8_anew_28 : decode cX8_anew 28 = .ok (.iload 4, 2) := by decide +kernel
theorem dX8_anew_30 : decode cX8_anew 30 = .ok (.i2l, 1) := by decide +kernel
theorem dX8_anew_31 : decode cX8_anew 31 = .ok (.ldc2_w 238, 3) := by decide +kernel
theorem dX8_anew_34 : decode cX8_anew 34 = .ok (.ldc2_w 217, 3) := by decide +kernel
theorem dX8_anew_37 : decode cX8_anew 37 = .ok (.invokestatic 79, 3) := by decide +kernel
theorem dX8_anew_40 : decode cX8_anew 40 = .ok (.ifCond .eq 33, 3) := by decide +kernel
theorem dX8_anew_43 : decode cX8_anew 43 = .ok (.iload 5, 2) := by decide +kernel
theorem dX8_anew_45 : decode cX8_anew 45 = .ok (.i2l, 1) := by decide +kernel
theorem dX8_anew_46 : decode cX8_anew 46 = .ok (.ldc2_w 238, 3) := by decide +kernel
theorem dX8_anew_49 : decode cX8_anew 49 = .ok (.ldc2_w 217, 3) := by decide +kernel
theorem dX8_anew_52 : decode cX8_anew 52 = .ok (.invokestatic 79, 3) := by decide +kernel
theorem dX8_anew_55 : decode cX8_anew 55 = .ok (.ifCond .eq 18, 3) := by decide +kernel
theorem dX8_anew_58 : decode cX8_anew 58 = .ok (.iload_n 2, 1) := by decide +kernel
theorem dX8_anew_59 : decode cX8_anew 59 = .ok (.iload 5, 2) := by decide +kernel
theorem dX8_anew_61 : decode cX8_anew 61 = .ok (.imul, 1) := by decide +kernel
theorem dX8_anew_62 : decode cX8_anew 62 = .ok (.iload_n 3, 1) := by decide +kernel
theorem dX8_anew_63 : decode cX8_anew 63 = .ok (.iload 4, 2) := by decide +kernel
theorem dX8_anew_65 : decode cX8_anew 65 = .ok (.imul, 1) := by decide +kernel
theorem dX8_anew_66 : decode cX8_anew 66 = .ok (.if_icmp .eq 7, 3) := by decide +kernel
theorem dX8_anew_69 : decode cX8_anew 69 = .ok (.iconst 1, 1) := by decide +kernel
theorem dX8_anew_70 : decode cX8_anew 70 = .ok (.goto 4, 3) := by decide +kernel
theorem dX8_anew_73 : decode cX8_anew 73 = .ok (.iconst 0, 1) := by decide +kernel
theorem dX8_anew_74 : decode cX8_anew 74 = .ok (.istore 6, 2) := by decide +kernel
theorem dX8_anew_76 : decode cX8_anew 76 = .ok (.iload 6, 2) := by decide +kernel
theorem dX8_anew_78 : decode cX8_anew 78 = .ok (.ifCond .ne 7, 3) := by decide +kernel
theorem dX8_anew_81 : decode cX8_anew 81 = .ok (.iconst (-1), 1) := by decide +kernel
theorem dX8_anew_82 : decode cX8_anew 82 = .ok (.goto 8, 3) := by decide +kernel
theorem dX8_anew_85 : decode cX8_anew 85 = .ok (.aload_n 0, 1) := by decide +kernel
theorem dX8_anew_86 : decode cX8_anew 86 = .ok (.iload_n 1, 1) := by decide +kernel
theorem dX8_anew_87 : decode cX8_anew 87 = .ok (.invokevirtual 163, 3) := by decide +kernel
theorem dX8_anew_90 : decode cX8_anew 90 = .ok (.istore 7, 2) := by decide +kernel
theorem dX8_anew_92 : decode cX8_anew 92 = .ok (.iload 7, 2) := by decide +kernel
theorem dX8_anew_94 : decode cX8_anew 94 = .ok (.ifCond .ge 6, 3) := by decide +kernel
theorem dX8_anew_97 : decode cX8_anew 97 = .ok (.iload 7, 2) := by decide +kernel
theorem dX8_anew_99 : decode cX8_anew 99 = .ok (.ireturn, 1) := by decide +kernel
theorem dX8_anew_100 : decode cX8_anew 100 = .ok (.aload_n 0, 1) := by decide +kernel
theorem dX8_anew_101 : decode cX8_anew 101 = .ok (.iload_n 1, 1) := by decide +kernel
theorem dX8_anew_102 : decode cX8_anew 102 = .ok (.invokevirtual 111, 3) := by decide +kernel
theorem dX8_anew_105 : decode cX8_anew 105 = .ok (.istore 8, 2) := by decide +kernel
theorem dX8_anew_107 : decode cX8_anew 107 = .ok (.iconst 0, 1) := by decide +kernel
theorem dX8_anew_108 : decode cX8_anew 108 = .ok (.istore 9, 2) := by decide +kernel
theorem dX8_anew_110 : decode cX8_anew 110 = .ok (.iload 9, 2) := by decide +kernel
theorem dX8_anew_112 : decode cX8_anew 112 = .ok (.bipush 12, 2) := by decide +kernel
theorem dX8_anew_114 : decode cX8_anew 114 = .ok (.if_icmp .ge 17, 3) := by decide +kernel
theorem dX8_anew_117 : decode cX8_anew 117 = .ok (.aload_n 0, 1) := by decide +kernel
theorem dX8_anew_118 : decode cX8_anew 118 = .ok (.getfield 17, 3) := by decide +kernel
theorem dX8_anew_121 : decode cX8_anew 121 = .ok (.iload 9, 2) := by decide +kernel
theorem dX8_anew_123 : decode cX8_anew 123 = .ok (.lconst 0, 1) := by decide +kernel
theorem dX8_anew_124 : decode cX8_anew 124 = .ok (.lastore, 1) := by decide +kernel
theorem dX8_anew_125 : decode cX8_anew 125 = .ok (.iinc 9 1, 3) := by decide +kernel
theorem dX8_anew_128 : decode cX8_anew 128 = .ok (.goto (-18), 3) := by decide +kernel
theorem dX8_anew_131 : decode cX8_anew 131 = .ok (.iconst 0, 1) := by decide +kernel
theorem dX8_anew_132 : decode cX8_anew 132 = .ok (.istore 9, 2) := by decide +kernel
theorem dX8_anew_134 : decode cX8_anew 134 = .ok (.iload 9, 2) := by decide +kernel
theorem dX8_anew_136 : decode cX8_anew 136 = .ok (.iload 8, 2) := by decide +kernel
theorem dX8_anew_138 : decode cX8_anew 138 = .ok (.if_icmp .gt 158, 3) := by decide +kernel
theorem dX8_anew_141 : decode cX8_anew 141 = .ok (.iconst 0, 1) := by decide +kernel
theorem dX8_anew_142 : decode cX8_anew 142 = .ok (.istore 10, 2) := by decide +kernel
theorem dX8_anew_144 : decode cX8_anew 144 = .ok (.iload 10, 2) := by decide +kernel
theorem dX8_anew_146 : decode cX8_anew 146 = .ok (.iconst 4, 1) := by decide +kernel
theorem dX8_anew_147 : decode cX8_anew 147 = .ok (.if_icmp .ge 26, 3) := by decide +kernel
theorem dX8_anew_150 : decode cX8_anew 150 = .ok (.aload_n 0, 1) := by decide +kernel
theorem dX8_anew_151 : decode cX8_anew 151 = .ok (.getfield 23, 3) := by decide +kernel
theorem dX8_anew_154 : decode cX8_anew 154 = .ok (.iload 10, 2) := by decide +kernel
theorem dX8_anew_156 : decode cX8_anew 156 = .ok (.iload 10, 2) := by decide +kernel
theorem dX8_anew_158 : decode cX8_anew 158 = .ok (.ifCond .ne 7, 3) := by decide +kernel
theorem dX8_anew_161 : decode cX8_anew 161 = .ok (.lconst 1, 1) := by decide +kernel
theorem dX8_anew_162 : decode cX8_anew 162 = .ok (.goto 4, 3) := by decide +kernel
theorem dX8_anew_165 : decode cX8_anew 165 = .ok (.lconst 0, 1) := by decide +kernel
theorem dX8_anew_166 : decode cX8_anew 166 = .ok (.lastore, 1) := by decide +kernel
theorem dX8_anew_167 : decode cX8_anew 167 = .ok (.iinc 10 1, 3) := by decide +kernel
theorem dX8_anew_170 : decode cX8_anew 170 = .ok (.goto (-26), 3) := by decide +kernel
theorem dX8_anew_173 : decode cX8_anew 173 = .ok (.iconst 0, 1) := by decide +kernel
theorem dX8_anew_174 : decode cX8_anew 174 = .ok (.istore 10, 2) := by decide +kernel
theorem dX8_anew_176 : decode cX8_anew 176 = .ok (.iload 10, 2) := by decide +kernel
theorem dX8_anew_178 : decode cX8_anew 178 = .ok (.iload 8, 2) := by decide +kernel
theorem dX8_anew_180 : decode cX8_anew 180 = .ok (.if_icmp .ge 43, 3) := by decide +kernel
theorem dX8_anew_183 : decode cX8_anew 183 = .ok (.aload_n 0, 1) := by decide +kernel
theorem dX8_anew_184 : decode cX8_anew 184 = .ok (.iload 10, 2) := by decide +kernel
theorem dX8_anew_186 : decode cX8_anew 186 = .ok (.iload 9, 2) := by decide +kernel
theorem dX8_anew_188 : decode cX8_anew 188 = .ok (.if_icmp .ge 8, 3) := by decide +kernel
theorem dX8_anew_191 : decode cX8_anew 191 = .ok (.iload_n 2, 1) := by decide +kernel
theorem dX8_anew_192 : decode cX8_anew 192 = .ok (.i2l, 1) := by decide +kernel
theorem dX8_anew_193 : decode cX8_anew 193 = .ok (.goto 6, 3) := by decide +kernel
theorem dX8_anew_196 : decode cX8_anew 196 = .ok (.iload 4, 2) := by decide +kernel
theorem dX8_anew_198 : decode cX8_anew 198 = .ok (.i2l, 1) := by decide +kernel
theorem dX8_anew_199 : decode cX8_anew 199 = .ok (.iload 10, 2) := by decide +kernel
theorem dX8_anew_201 : decode cX8_anew 201 = .ok (.iload 9, 2) := by decide +kernel
theorem dX8_anew_203 : decode cX8_anew 203 = .ok (.if_icmp .ge 8, 3) := by decide +kernel
theorem dX8_anew_206 : decode cX8_anew 206 = .ok (.iload_n 3, 1) := by decide +kernel
theorem dX8_anew_207 : decode cX8_anew 207 = .ok (.i2l, 1) := by decide +kernel
theorem dX8_anew_208 : decode cX8_anew 208 = .ok (.goto 6, 3) := by decide +kernel
theorem dX8_anew_211 : decode cX8_anew 211 = .ok (.iload 5, 2) := by decide +kernel
theorem dX8_anew_213 : decode cX8_anew 213 = .ok (.i2l, 1) := by decide +kernel
theorem dX8_anew_214 : decode cX8_anew 214 = .ok (.invokevirtual 240, 3) := by decide +kernel
theorem dX8_anew_217 : decode cX8_anew 217 = .ok (.iinc 10 1, 3) := by decide +kernel
theorem dX8_anew_220 : decode cX8_anew 220 = .ok (.goto (-44), 3) := by decide +kernel
theorem dX8_anew_223 : decode cX8_anew 223 = .ok (.iconst 0, 1) := by decide +kernel
theorem dX8_anew_224 : decode cX8_anew 224 = .ok (.istore 10, 2) := by decide +kernel
theorem dX8_anew_226 : decode cX8_anew 226 = .ok (.iload 10, 2) := by decide +kernel
theorem dX8_anew_228 : decode cX8_anew 228 = .ok (.bipush 12, 2) := by decide +kernel
theorem dX8_anew_230 : decode cX8_anew 230 = .ok (.if_icmp .ge 60, 3) := by decide +kernel
theorem dX8_anew_233 : decode cX8_anew 233 = .ok (.iconst 0, 1) := by decide +kernel
theorem dX8_anew_234 : decode cX8_anew 234 = .ok (.istore 11, 2) := by decide +kernel
theorem dX8_anew_236 : decode cX8_anew 236 = .ok (.iload 11, 2) := by decide +kernel
theorem dX8_anew_238 : decode cX8_anew 238 = .ok (.iconst 4, 1) := by decide +kernel
theorem dX8_anew_239 : decode cX8_anew 239 = .ok (.if_icmp .ge 45, 3) := by decide +kernel
theorem dX8_anew_242 : decode cX8_anew 242 = .ok (.aload_n 0, 1) := by decide +kernel
theorem dX8_anew_243 : decode cX8_anew 243 = .ok (.getfield 17, 3) := by decide +kernel
theorem dX8_anew_246 : decode cX8_anew 246 = .ok (.iload 10, 2) := by decide +kernel
theorem dX8_anew_248 : decode cX8_anew 248 = .ok (.iload 11, 2) := by decide +kernel
theorem dX8_anew_250 : decode cX8_anew 250 = .ok (.iadd, 1) := by decide +kernel
theorem dX8_anew_251 : decode cX8_anew 251 = .ok (.dup2, 1) := by decide +kernel
theorem dX8_anew_252 : decode cX8_anew 252 = .ok (.laload, 1) := by decide +kernel
theorem dX8_anew_253 : decode cX8_anew 253 = .ok (.aload_n 0, 1) := by decide +kernel
theorem dX8_anew_254 : decode cX8_anew 254 = .ok (.getfield 13, 3) := by decide +kernel
theorem dX8_anew_257 : decode cX8_anew 257 = .ok (.bipush 12, 2) := by decide +kernel
theorem dX8_anew_259 : decode cX8_anew 259 = .ok (.iload_n 1, 1) := by decide +kernel
theorem dX8_anew_260 : decode cX8_anew 260 = .ok (.imul, 1) := by decide +kernel
theorem dX8_anew_261 : decode cX8_anew 261 = .ok (.iload 10, 2) := by decide +kernel
theorem dX8_anew_263 : decode cX8_anew 263 = .ok (.iadd, 1) := by decide +kernel
theorem dX8_anew_264 : decode cX8_anew 264 = .ok (.iload 9, 2) := by decide +kernel
theorem dX8_anew_266 : decode cX8_anew 266 = .ok (.iadd, 1) := by decide +kernel
theorem dX8_anew_267 : decode cX8_anew 267 = .ok (.laload, 1) := by decide +kernel
theorem dX8_anew_268 : decode cX8_anew 268 = .ok (.aload_n 0, 1) := by decide +kernel
theorem dX8_anew_269 : decode cX8_anew 269 = .ok (.getfield 23, 3) := by decide +kernel
theorem dX8_anew_272 : decode cX8_anew 272 = .ok (.iload 11, 2) := by decide +kernel
theorem dX8_anew_274 : decode cX8_anew 274 = .ok (.laload, 1) := by decide +kernel
theorem dX8_anew_275 : decode cX8_anew 275 = .ok (.lmul, 1) := by decide +kernel
theorem dX8_anew_276 : decode cX8_anew 276 = .ok (.ladd, 1) := by decide +kernel
theorem dX8_anew_277 : decode cX8_anew 277 = .ok (.lastore, 1) := by decide +kernel
theorem dX8_anew_278 : decode cX8_anew 278 = .ok (.iinc 11 1, 3) := by decide +kernel
theorem dX8_anew_281 : decode cX8_anew 281 = .ok (.goto (-45), 3) := by decide +kernel
theorem dX8_anew_284 : decode cX8_anew 284 = .ok (.iinc 10 4, 3) := by decide +kernel
theorem dX8_anew_287 : decode cX8_anew 287 = .ok (.goto (-61), 3) := by decide +kernel
theorem dX8_anew_290 : decode cX8_anew 290 = .ok (.iinc 9 1, 3) := by decide +kernel
theorem dX8_anew_293 : decode cX8_anew 293 = .ok (.goto (-159), 3) := by decide +kernel
theorem dX8_anew_296 : decode cX8_anew 296 = .ok (.aload_n 0, 1) := by decide +kernel
theorem dX8_anew_297 : decode cX8_anew 297 = .ok (.iload_n 1, 1) := by decide +kernel
theorem dX8_anew_298 : decode cX8_anew 298 = .ok (.invokevirtual 160, 3) := by decide +kernel
theorem dX8_anew_301 : decode cX8_anew 301 = .ok (.ireturn, 1) := by decide +kernel
set_option maxRecDepth 20000 in
theorem ggX8_move_X8_in : GoodIn wsX8_move wsX8_in := goodIn_r _ [8] rfl (by decide +kernel)
set_option maxRecDepth 20000 in
theorem gX8_move_X8_in : GoodIn wsX8_move (va_wsS RX8 79 yX8_in wsX8_in) := goodIn_app (goodIn_of _ (by decide +kernel)) ggX8_move_X8_in
set_option maxRecDepth 20000 in
theorem ggX8_move_X8_against : GoodIn wsX8_move wsX8_against := goodIn_r _ [12, 13, 14, 15, 7, 16, 17, 5, 6, 8, 76, 77, 78, 79, 80, 81, 82, 83, 84, 85, 86, 87, 88, 89, 90, 91, 92, 93, 94] rfl (by decide +kernel)
set_option maxRecDepth 20000 in
theorem gX8_move_X8_against : GoodIn wsX8_move (wsV RX8 163 RX8 yX8_against wsX8_against) := goodIn_app (goodIn_of _ (by decide +kernel)) ggX8_move_X8_against
set_option maxRecDepth 20000 in
theorem ggX8_move_X8_keep : GoodIn wsX8_move wsX8_keep := goodIn_r _ [21, 3, 22, 23, 1, 2, 4, 13, 24, 25, 7, 26, 27, 28, 29, 30, 31, 32, 33, 34, 35, 36, 37, 38, 39, 40, 41, 42, 43, 44, 45, 46, 47, 48, 49, 50, 5, 6, 8, 51, 52, 53, 54, 55, 56, 57, 58, 59, 60, 61, 62, 63, 64, 65, 66, 67, 68, 69, 70, 71, 72, 73, 74, 75, 76, 77, 78, 79, 80, 81, 82, 83, 84, 85, 86, 87, 88, 89, 90, 91, 92, 93, 94] rfl (by decide +kernel)
set_option maxRecDepth 20000 in
theorem gX8_move_X8_keep : GoodIn wsX8_move (wsV RX8 160 RX8 yX8_keep wsX8_keep) := goodIn_app (goodIn_of _ (by decide +kernel)) ggX8_move_X8_keep
theorem dX8_move_0 : decode cX8_move 0 = .ok (.iload_n 2, 1) := by decide +kernel
theorem dX8_move_1 : decode cX8_move 1 = .ok (.i2l, 1) := by decide +kernel
theorem dX8_move_2 : decode cX8_move 2 = .ok (.ldc2_w 99, 3) := by decide +kernel
theorem dX8_move_5 : decode cX8_move 5 = .ok (.ldc2_w 101, 3) := by decide +kernel
theorem dX8_move_8 : decode cX8_move 8 = .ok (.invokestatic 79, 3) := by decide +kernel
theorem dX8_move_11 : decode cX8_move 11 = .ok (.ifCond .eq 92, 3) := by decide +kernel
theorem dX8_move_14 : decode cX8_move 14 = .ok (.iload_n 3, 1) := by decide +kernel
theorem dX8_move_15 : decode cX8_move 15 = .ok (.i2l, 1) := by decide +kernel
theorem dX8_move_16 : decode cX8_move 16 = .ok (.ldc2_w 99, 3) := by decide +kernel
theorem dX8_move_19 : decode cX8_move 19 = .ok (.ldc2_w 101, 3) := by decide +kernel
theorem dX8_move_22 : decode cX8_move 22 = .ok (.invokestatic 79, 3) := by decide +kernel
theorem dX8_move_25 : decode cX8_move 25 = .ok (.ifCond .eq 78, 3) := by decide +kernel
theorem dX8_move_28 : decode cX8_move 28 = .ok (.iload 4, 2) := by decide +kernel
theorem dX8_move_30 : decode cX8_move 30 = .ok (.i2l, 1) := by decide +kernel
theorem dX8_move_31 : decode cX8_move 31 = .ok (.ldc2_w 99, 3) := by decide +kernel
theorem dX8_move_34 : decode cX8_move 34 = .ok (.ldc2_w 101, 3) := by decide +kernel
theorem dX8_move_37 : decode cX8_move 37 = .ok (.invokestatic 79, 3) := by decide +kernel
theorem dX8_move_40 : decode cX8_move 40 = .ok (.ifCond .eq 63, 3) := by decide +kernel
theorem dX8_move_43 : decode cX8_move 43 = .ok (.iload 5, 2) := by decide +kernel
theorem dX8_move_45 : decode cX8_move 45 = .ok (.i2l, 1) := by decide +kernel
theorem dX8_move_46 : decode cX8_move 46 = .ok (.ldc2_w 99, 3) := by decide +kernel
theorem dX8_move_49 : decode cX8_move 49 = .ok (.ldc2_w 101, 3) := by decide +kernel
theorem dX8_move_52 : decode cX8_move 52 = .ok (.invokestatic 79, 3) := by decide +kernel
theorem dX8_move_55 : decode cX8_move 55 = .ok (.ifCond .eq 48, 3) := by decide +kernel
theorem dX8_move_58 : decode cX8_move 58 = .ok (.iload 6, 2) := by decide +kernel
theorem dX8_move_60 : decode cX8_move 60 = .ok (.i2l, 1) := by decide +kernel
theorem dX8_move_61 : decode cX8_move 61 = .ok (.ldc2_w 99, 3) := by decide +kernel
theorem dX8_move_64 : decode cX8_move 64 = .ok (.ldc2_w 101, 3) := by decide +kernel
theorem dX8_move_67 : decode cX8_move 67 = .ok (.invokestatic 79, 3) := by decide +kernel
theorem dX8_move_70 : decode cX8_move 70 = .ok (.ifCond .eq 33, 3) := by decide +kernel
theorem dX8_move_73 : decode cX8_move 73 = .ok (.iload 7, 2) := by decide +kernel
theorem dX8_move_75 : decode cX8_move 75 = .ok (.i2l, 1) := by decide +kernel
theorem dX8_move_76 : decode cX8_move 76 = .ok (.ldc2_w 99, 3) := by decide +kernel
theorem dX8_move_79 : decode cX8_move 79 = .ok (.ldc2_w 101, 3) := by decide +kernel
theorem dX8_move_82 : decode cX8_move 82 = .ok (.invokestatic 79, 3) := by decide +kernel
theorem dX8_move_85 : decode cX8_move 85 = .ok (.ifCond .eq 18, 3) := by decide +kernel
theorem dX8_move_88 : decode cX8_move 88 = .ok (.iload_n 2, 1) := by decide +kernel
theorem dX8_move_89 : decode cX8_move 89 = .ok (.iload 5, 2) := by decide +kernel
theorem dX8_move_91 : decode cX8_move 91 = .ok (.imul, 1) := by decide +kernel
theorem dX8_move_92 : decode cX8_move 92 = .ok (.iload_n 3, 1) := by decide +kernel
theorem dX8_move_93 : decode cX8_move 93 = .ok (.iload 4, 2) := by decide +kernel
theorem dX8_move_95 : decode cX8_move 95 = .ok (.imul, 1) := by decide +kernel
theorem dX8_move_96 : decode cX8_move 96 = .ok (.if_icmp .eq 7, 3) := by decide +kernel
theorem dX8_move_99 : decode cX8_move 99 = .ok (.iconst 1, 1) := by decide +kernel
theorem dX8_move_100 : decode cX8_move 100 = .ok (.goto 4, 3) := by decide +kernel
theorem dX8_move_103 : decode cX8_move 103 = .ok (.iconst 0, 1) := by decide +kernel
theorem dX8_move_104 : decode cX8_move 104 = .ok (.istore 8, 2) := by decide +kernel
theorem dX8_move_106 : decode cX8_move 106 = .ok (.iload 8, 2) := by decide +kernel
theorem dX8_move_108 : decode cX8_move 108 = .ok (.ifCond .ne 7, 3) := by decide +kernel
theorem dX8_move_111 : decode cX8_move 111 = .ok (.iconst (-1), 1) := by decide +kernel
theorem dX8_move_112 : decode cX8_move 112 = .ok (.goto 8, 3) := by decide +kernel
theorem dX8_move_115 : decode cX8_move 115 = .ok (.aload_n 0, 1) := by decide +kernel
theorem dX8_move_116 : decode cX8_move 116 = .ok (.iload_n 1, 1) := by decide +kernel
theorem dX8_move_117 : decode cX8_move 117 = .ok (.invokevirtual 163, 3) := by decide +kernel
theorem dX8_move_120 : decode cX8_move 120 = .ok (.istore 9, 2) := by decide +kernel
theorem dX8_move_122 : decode cX8_move 122 = .ok (.iload 9, 2) := by decide +kernel
theorem dX8_move_124 : decode cX8_move 124 = .ok (.ifCond .ge 6, 3) := by decide +kernel
theorem dX8_move_127 : decode cX8_move 127 = .ok (.iload 9, 2) := by decide +kernel
theorem dX8_move_129 : decode cX8_move 129 = .ok (.ireturn, 1) := by decide +kernel
theorem dX8_move_130 : decode cX8_move 130 = .ok (.iconst 0, 1) := by decide +kernel
theorem dX8_move_131 : decode cX8_move 131 = .ok (.istore 10, 2) := by decide +kernel
theorem dX8_move_133 : decode cX8_move 133 = .ok (.iload 10, 2) := by decide +kernel
theorem dX8_move_135 : decode cX8_move 135 = .ok (.iconst 4, 1) := by decide +kernel
theorem dX8_move_136 : decode cX8_move 136 = .ok (.if_icmp .ge 132, 3) := by decide +kernel
theorem dX8_move_139 : decode cX8_move 139 = .ok (.bipush 12, 2) := by decide +kernel
theorem dX8_move_141 : decode cX8_move 141 = .ok (.iload_n 1, 1) := by decide +kernel
theorem dX8_move_142 : decode cX8_move 142 = .ok (.imul, 1) := by decide +kernel
theorem dX8_move_143 : decode cX8_move 143 = .ok (.iload 10, 2) := by decide +kernel
theorem dX8_move_145 : decode cX8_move 145 = .ok (.iadd, 1) := by decide +kernel
theorem dX8_move_146 : decode cX8_move 146 = .ok (.istore 11, 2) := by decide +kernel
theorem dX8_move_148 : decode cX8_move 148 = .ok (.aload_n 0, 1) := by decide +kernel
theorem dX8_move_149 : decode cX8_move 149 = .ok (.getfield 17, 3) := by decide +kernel
theorem dX8_move_152 : decode cX8_move 152 = .ok (.iload 10, 2) := by decide +kernel
theorem dX8_move_154 : decode cX8_move 154 = .ok (.iload_n 2, 1) := by decide +kernel
theorem dX8_move_155 : decode cX8_move 155 = .ok (.i2l, 1) := by decide +kernel
theorem dX8_move_156 : decode cX8_move 156 = .ok (.aload_n 0, 1) := by decide +kernel
theorem dX8_move_157 : decode cX8_move 157 = .ok (.getfield 13, 3) := by decide +kernel
theorem dX8_move_160 : decode cX8_move 160 = .ok (.iload 11, 2) := by decide +kernel
theorem dX8_move_162 : decode cX8_move 162 = .ok (.laload, 1) := by decide +kernel
theorem dX8_move_163 : decode cX8_move 163 = .ok (.lmul, 1) := by decide +kernel
theorem dX8_move_164 : decode cX8_move 164 = .ok (.iload_n 3, 1) := by decide +kernel
theorem dX8_move_165 : decode cX8_move 165 = .ok (.i2l, 1) := by decide +kernel
theorem dX8_move_166 : decode cX8_move 166 = .ok (.aload_n 0, 1) := by decide +kernel
theorem dX8_move_167 : decode cX8_move 167 = .ok (.getfield 13, 3) := by decide +kernel
theorem dX8_move_170 : decode cX8_move 170 = .ok (.iload 11, 2) := by decide +kernel
theorem dX8_move_172 : decode cX8_move 172 = .ok (.iconst 4, 1) := by decide +kernel
theorem dX8_move_173 : decode cX8_move 173 = .ok (.iadd, 1) := by decide +kernel
theorem dX8_move_174 : decode cX8_move 174 = .ok (.laload, 1) := by decide +kernel
theorem dX8_move_175 : decode cX8_move 175 = .ok (.lmul, 1) := by decide +kernel
theorem dX8_move_176 : decode cX8_move 176 = .ok (.ladd, 1) := by decide +kernel
theorem dX8_move_177 : decode cX8_move 177 = .ok (.iload 6, 2) := by decide +kernel
theorem dX8_move_179 : decode cX8_move 179 = .ok (.i2l, 1) := by decide +kernel
theorem dX8_move_180 : decode cX8_move 180 = .ok (.aload_n 0, 1) := by decide +kernel
theorem dX8_move_181 : decode cX8_move 181 = .ok (.getfield 13, 3) := by decide +kernel
theorem dX8_move_184 : decode cX8_move 184 = .ok (.iload 11, 2) := by decide +kernel
theorem dX8_move_186 : decode cX8_move 186 = .ok (.bipush 8, 2) := by decide +kernel
theorem dX8_move_188 : decode cX8_move 188 = .ok (.iadd, 1) := by decide +kernel
theorem dX8_move_189 : decode cX8_move 189 = .ok (.laload, 1) := by decide +kernel
theorem dX8_move_190 : decode cX8_move 190 = .ok (.lmul, 1) := by decide +kernel
theorem dX8_move_191 : decode cX8_move 191 = .ok (.ladd, 1) := by decide +kernel
theorem dX8_move_192 : decode cX8_move 192 = .ok (.lastore, 1) := by decide +kernel
theorem dX8_move_193 : decode cX8_move 193 = .ok (.aload_n 0, 1) := by decide +kernel
theorem dX8_move_194 : decode cX8_move 194 = .ok (.getfield 17, 3) := by decide +kernel
theorem dX8_move_197 : decode cX8_move 197 = .ok (.iconst 4, 1) := by decide +kernel
theorem dX8_move_198 : decode cX8_move 198 = .ok (.iload 10, 2) := by decide +kernel
theorem dX8_move_200 : decode cX8_move 200 = .ok (.iadd, 1) := by decide +kernel
theorem dX8_move_201 : decode cX8_move 201 = .ok (.iload 4, 2) := by decide +kernel
theorem dX8_move_203 : decode cX8_move 203 = .ok (.i2l, 1) := by decide +kernel
theorem dX8_move_204 : decode cX8_move 204 = .ok (.aload_n 0, 1) := by decide +kernel
theorem dX8_move_205 : decode cX8_move 205 = .ok (.getfield 13, 3) := by decide +kernel
theorem dX8_move_208 : decode cX8_move 208 = .ok (.iload 11, 2) := by decide +kernel
theorem dX8_move_210 : decode cX8_move 210 = .ok (.laload, 1) := by decide +kernel
theorem dX8_move_211 : decode cX8_move 211 = .ok (.lmul, 1) := by decide +kernel
theorem dX8_move_212 : decode cX8_move 212 = .ok (.iload 5, 2) := by decide +kernel
theorem dX8_move_214 : decode cX8_move 214 = .ok (.i2l, 1) := by decide +kernel
theorem dX8_move_215 : decode cX8_move 215 = .ok (.aload_n 0, 1) := by decide +kernel
theorem dX8_move_216 : decode cX8_move 216 = .ok (.getfield 13, 3) := by decide +kernel
theorem dX8_move_219 : decode cX8_move 219 = .ok (.iload 11, 2) := by decide +kernel
theorem dX8_move_221 : decode cX8_move 221 = .ok (.iconst 4, 1) := by decide +kernel
theorem dX8_move_222 : decode cX8_move 222 = .ok (.iadd, 1) := by decide +kernel
theorem dX8_move_223 : decode cX8_move 223 = .ok (.laload, 1) := by decide +kernel
theorem dX8_move_224 : decode cX8_move 224 = .ok (.lmul, 1) := by decide +kernel
theorem dX8_move_225 : decode cX8_move 225 = .ok (.ladd, 1) := by decide +kernel
theorem dX8_move_226 : decode cX8_move 226 = .ok (.iload 7, 2) := by decide +kernel
theorem dX8_move_228 : decode cX8_move 228 = .ok (.i2l, 1) := by decide +kernel
theorem dX8_move_229 : decode cX8_move 229 = .ok (.aload_n 0, 1) := by decide +kernel
theorem dX8_move_230 : decode cX8_move 230 = .ok (.getfield 13, 3) := by decide +kernel
theorem dX8_move_233 : decode cX8_move 233 = .ok (.iload 11, 2) := by decide +kernel
theorem dX8_move_235 : decode cX8_move 235 = .ok (.bipush 8, 2) := by decide +kernel
theorem dX8_move_237 : decode cX8_move 237 = .ok (.iadd, 1) := by decide +kernel
theorem dX8_move_238 : decode cX8_move 238 = .ok (.laload, 1) := by decide +kernel
theorem dX8_move_239 : decode cX8_move 239 = .ok (.lmul, 1) := by decide +kernel
theorem dX8_move_240 : decode cX8_move 240 = .ok (.ladd, 1) := by decide +kernel
theorem dX8_move_241 : decode cX8_move 241 = .ok (.lastore, 1) := by decide +kernel
theorem dX8_move_242 : decode cX8_move 242 = .ok (.aload_n 0, 1) := by decide +kernel
theorem dX8_move_243 : decode cX8_move 243 = .ok (.getfield 17, 3) := by decide +kernel
theorem dX8_move_246 : decode cX8_move 246 = .ok (.bipush 8, 2) := by decide +kernel
theorem dX8_move_248 : decode cX8_move 248 = .ok (.iload 10, 2) := by decide +kernel
theorem dX8_move_250 : decode cX8_move 250 = .ok (.iadd, 1) := by decide +kernel
theorem dX8_move_251 : decode cX8_move 251 = .ok (.aload_n 0, 1) := by decide +kernel
theorem dX8_move_252 : decode cX8_move 252 = .ok (.getfield 13, 3) := by decide +kernel
theorem dX8_move_255 : decode cX8_move 255 = .ok (.iload 11, 2) := by decide +kernel
theorem dX8_move_257 : decode cX8_move 257 = .ok (.bipush 8, 2) := by decide +kernel
theorem dX8_move_259 : decode cX8_move 259 = .ok (.iadd, 1) := by decide +kernel
theorem dX8_move_260 : decode cX8_move 260 = .ok (.laload, 1) := by decide +kernel
theorem dX8_move_261 : decode cX8_move 261 = .ok (.lastore, 1) := by decide +kernel
theorem dX8_move_262 : decode cX8_move 262 = .ok (.iinc 10 1, 3) := by decide +kernel
theorem dX8_move_265 : decode cX8_move 265 = .ok (.goto (-132), 3) := by decide +kernel
theorem dX8_move_268 : decode cX8_move 268 = .ok (.aload_n 0, 1) := by decide +kernel
theorem dX8_move_269 : decode cX8_move 269 = .ok (.iload_n 1, 1) := by decide +kernel
theorem dX8_move_270 : decode cX8_move 270 = .ok (.invokevirtual 160, 3) := by decide +kernel
theorem dX8_move_273 : decode cX8_move 273 = .ok (.ireturn, 1) := by decide +kernel
set_option maxRecDepth 20000 in
theorem ggX8_copy_X8_isLine : GoodIn wsX8_copy wsX8_isLine := goodIn_r _ [6, 7, 8, 9, 5, 10] rfl (by decide +kernel)
set_option maxRecDepth 20000 in
theorem gX8_copy_X8_isLine : GoodIn wsX8_copy (va_wsS RX8 124 yX8_isLine wsX8_isLine) := goodIn_app (goodIn_of _ (by decide +kernel)) ggX8_copy_X8_isLine
set_option maxRecDepth 20000 in
theorem ggX8_copy_X8_kindOf : GoodIn wsX8_copy wsX8_kindOf := goodIn_r _ [14, 15, 16, 17, 5, 18, 2, 19, 20, 21, 22, 23, 24, 25, 26, 27, 28, 29, 30, 31, 32, 33, 34, 35, 36, 37, 38, 39, 40, 41, 42, 43, 44, 45, 46, 47, 48, 49, 50, 51, 52, 53] rfl (by decide +kernel)
set_option maxRecDepth 20000 in
theorem gX8_copy_X8_kindOf : GoodIn wsX8_copy (wsV RX8 103 RX8 yX8_kindOf wsX8_kindOf) := goodIn_app (goodIn_of _ (by decide +kernel)) ggX8_copy_X8_kindOf
theorem dX8_copy_0 : decode cX8_copy 0 = .ok (.iload_n 1, 1) := by decide +kernel
theorem dX8_copy_1 : decode cX8_copy 1 = .ok (.invokestatic 124, 3) := by decide +kernel
theorem dX8_copy_4 : decode cX8_copy 4 = .ok (.ifCond .eq 10, 3) := by decide +kernel
theorem dX8_copy_7 : decode cX8_copy 7 = .ok (.iload_n 2, 1) := by decide +kernel
theorem dX8_copy_8 : decode cX8_copy 8 = .ok (.invokestatic 124, 3) := by decide +kernel
theorem dX8_copy_11 : decode cX8_copy 11 = .ok (.ifCond .ne 5, 3) := by decide +kernel
theorem dX8_copy_14 : decode cX8_copy 14 = .ok (.iconst (-1), 1) := by decide +kernel
theorem dX8_copy_15 : decode cX8_copy 15 = .ok (.ireturn, 1) := by decide +kernel
theorem dX8_copy_16 : decode cX8_copy 16 = .ok (.aload_n 0, 1) := by decide +kernel
theorem dX8_copy_17 : decode cX8_copy 17 = .ok (.getfield 7, 3) := by decide +kernel
theorem dX8_copy_20 : decode cX8_copy 20 = .ok (.iload_n 1, 1) := by decide +kernel
theorem dX8_copy_21 : decode cX8_copy 21 = .ok (.baload, 1) := by decide +kernel
theorem dX8_copy_22 : decode cX8_copy 22 = .ok (.ifCond .ne 6, 3) := by decide +kernel
theorem dX8_copy_25 : decode cX8_copy 25 = .ok (.bipush (-2), 2) := by decide +kernel
theorem dX8_copy_27 : decode cX8_copy 27 = .ok (.ireturn, 1) := by decide +kernel
theorem dX8_copy_28 : decode cX8_copy 28 = .ok (.iconst 0, 1) := by decide +kernel
theorem dX8_copy_29 : decode cX8_copy 29 = .ok (.istore_n 3, 1) := by decide +kernel
theorem dX8_copy_30 : decode cX8_copy 30 = .ok (.iload_n 3, 1) := by decide +kernel
theorem dX8_copy_31 : decode cX8_copy 31 = .ok (.bipush 12, 2) := by decide +kernel
theorem dX8_copy_33 : decode cX8_copy 33 = .ok (.if_icmp .ge 31, 3) := by decide +kernel
theorem dX8_copy_36 : decode cX8_copy 36 = .ok (.aload_n 0, 1) := by decide +kernel
theorem dX8_copy_37 : decode cX8_copy 37 = .ok (.getfield 13, 3) := by decide +kernel
theorem dX8_copy_40 : decode cX8_copy 40 = .ok (.bipush 12, 2) := by decide +kernel
theorem dX8_copy_42 : decode cX8_copy 42 = .ok (.iload_n 2, 1) := by decide +kernel
theorem dX8_copy_43 : decode cX8_copy 43 = .ok (.imul, 1) := by decide +kernel
theorem dX8_copy_44 : decode cX8_copy 44 = .ok (.iload_n 3, 1) := by decide +kernel
theorem dX8_copy_45 : decode cX8_copy 45 = .ok (.iadd, 1) := by decide +kernel
theorem dX8_copy_46 : decode cX8_copy 46 = .ok (.aload_n 0, 1) := by decide +kernel
theorem dX8_copy_47 : decode cX8_copy 47 = .ok (.getfield 13, 3) := by decide +kernel
theorem dX8_copy_50 : decode cX8_copy 50 = .ok (.bipush 12, 2) := by decide +kernel
theorem dX8_copy_52 : decode cX8_copy 52 = .ok (.iload_n 1, 1) := by decide +kernel
theorem dX8_copy_53 : decode cX8_copy 53 = .ok (.imul, 1) := by decide +kernel
theorem dX8_copy_54 : decode cX8_copy 54 = .ok (.iload_n 3, 1) := by decide +kernel
theorem dX8_copy_55 : decode cX8_copy 55 = .ok (.iadd, 1) := by decide +kernel
theorem dX8_copy_56 : decode cX8_copy 56 = .ok (.laload, 1) := by decide +kernel
theorem dX8_copy_57 : decode cX8_copy 57 = .ok (.lastore, 1) := by decide +kernel
theorem dX8_copy_58 : decode cX8_copy 58 = .ok (.iinc 3 1, 3) := by decide +kernel
theorem dX8_copy_61 : decode cX8_copy 61 = .ok (.goto (-31), 3) := by decide +kernel
theorem dX8_copy_64 : decode cX8_copy 64 = .ok (.aload_n 0, 1) := by decide +kernel
theorem dX8_copy_65 : decode cX8_copy 65 = .ok (.getfield 7, 3) := by decide +kernel
theorem dX8_copy_68 : decode cX8_copy 68 = .ok (.iload_n 2, 1) := by decide +kernel
theorem dX8_copy_69 : decode cX8_copy 69 = .ok (.iconst 1, 1) := by decide +kernel
theorem dX8_copy_70 : decode cX8_copy 70 = .ok (.bastore, 1) := by decide +kernel
theorem dX8_copy_71 : decode cX8_copy 71 = .ok (.aload_n 0, 1) := by decide +kernel
theorem dX8_copy_72 : decode cX8_copy 72 = .ok (.iload_n 2, 1) := by decide +kernel
theorem dX8_copy_73 : decode cX8_copy 73 = .ok (.invokevirtual 103, 3) := by decide +kernel
theorem dX8_copy_76 : decode cX8_copy 76 = .ok (.ireturn, 1) := by decide +kernel
set_option maxRecDepth 20000 in
theorem ggX8_isSheet_X8_in : GoodIn wsX8_isSheet wsX8_in := goodIn_r _ [6] rfl (by decide +kernel)
set_option maxRecDepth 20000 in
theorem gX8_isSheet_X8_in : GoodIn wsX8_isSheet (va_wsS RX8 79 yX8_in wsX8_in) := goodIn_app (goodIn_of _ (by decide +kernel)) ggX8_isSheet_X8_in
theorem dX8_isSheet_0 : decode cX8_isSheet 0 = .ok (.iload_n 0, 1) := by decide +kernel
theorem dX8_isSheet_1 : decode cX8_isSheet 1 = .ok (.i2l, 1) := by decide +kernel
theorem dX8_isSheet_2 : decode cX8_isSheet 2 = .ok (.lconst 0, 1) := by decide +kernel
theorem dX8_isSheet_3 : decode cX8_isSheet 3 = .ok (.ldc2_w 122, 3) := by decide +kernel
theorem dX8_isSheet_6 : decode cX8_isSheet 6 = .ok (.invokestatic 79, 3) := by decide +kernel
theorem dX8_isSheet_9 : decode cX8_isSheet 9 = .ok (.ifCond .eq 19, 3) := by decide +kernel
theorem dX8_isSheet_12 : decode cX8_isSheet 12 = .ok (.iload_n 1, 1) := by decide +kernel
theorem dX8_isSheet_13 : decode cX8_isSheet 13 = .ok (.i2l, 1) := by decide +kernel
theorem dX8_isSheet_14 : decode cX8_isSheet 14 = .ok (.lconst 0, 1) := by decide +kernel
theorem dX8_isSheet_15 : decode cX8_isSheet 15 = .ok (.ldc2_w 166, 3) := by decide +kernel
theorem dX8_isSheet_18 : decode cX8_isSheet 18 = .ok (.invokestatic 79, 3) := by decide +kernel
theorem dX8_isSheet_21 : decode cX8_isSheet 21 = .ok (.ifCond .eq 7, 3) := by decide +kernel
theorem dX8_isSheet_24 : decode cX8_isSheet 24 = .ok (.iconst 1, 1) := by decide +kernel
theorem dX8_isSheet_25 : decode cX8_isSheet 25 = .ok (.goto 4, 3) := by decide +kernel
theorem dX8_isSheet_28 : decode cX8_isSheet 28 = .ok (.iconst 0, 1) := by decide +kernel
theorem dX8_isSheet_29 : decode cX8_isSheet 29 = .ok (.ireturn, 1) := by decide +kernel
set_option maxRecDepth 20000 in
theorem ggX8_sheet_X8_isSheet : GoodIn wsX8_sheet wsX8_isSheet := goodIn_r _ [7, 8, 9, 10, 11, 6, 12] rfl (by decide +kernel)
set_option maxRecDepth 20000 in
theorem gX8_sheet_X8_isSheet : GoodIn wsX8_sheet (va_wsS RX8 244 yX8_isSheet wsX8_isSheet) := goodIn_app (goodIn_of _ (by decide +kernel)) ggX8_sheet_X8_isSheet
theorem dX8_sheet_0 : decode cX8_sheet 0 = .ok (.iload_n 1, 1) := by decide +kernel
theorem dX8_sheet_1 : decode cX8_sheet 1 = .ok (.iload_n 2, 1) := by decide +kernel
theorem dX8_sheet_2 : decode cX8_sheet 2 = .ok (.invokestatic 244, 3) := by decide +kernel
theorem dX8_sheet_5 : decode cX8_sheet 5 = .ok (.ifCond .eq 9, 3) := by decide +kernel
theorem dX8_sheet_8 : decode cX8_sheet 8 = .ok (.iload_n 3, 1) := by decide +kernel
theorem dX8_sheet_9 : decode cX8_sheet 9 = .ok (.bipush 20, 2) := by decide +kernel
theorem dX8_sheet_11 : decode cX8_sheet 11 = .ok (.if_icmp .le 5, 3) := by decide +kernel
theorem dX8_sheet_14 : decode cX8_sheet 14 = .ok (.iconst (-1), 1) := by decide +kernel
theorem dX8_sheet_15 : decode cX8_sheet 15 = .ok (.ireturn, 1) := by decide +kernel
theorem dX8_sheet_16 : decode cX8_sheet 16 = .ok (.iload_n 3, 1) := by decide +kernel
theorem dX8_sheet_17 : decode cX8_sheet 17 = .ok (.ifCond .ge 6, 3) := by decide +kernel
theorem dX8_sheet_20 : decode cX8_sheet 20 = .ok (.bipush (-14), 2) := by decide +kernel
theorem dX8_sheet_22 : decode cX8_sheet 22 = .ok (.ireturn, 1) := by decide +kernel
theorem dX8_sheet_23 : decode cX8_sheet 23 = .ok (.aload_n 0, 1) := by decide +kernel
theorem dX8_sheet_24 : decode cX8_sheet 24 = .ok (.getfield 54, 3) := by decide +kernel
theorem dX8_sheet_27 : decode cX8_sheet 27 = .ok (.iload_n 1, 1) := by decide +kernel
theorem dX8_sheet_28 : decode cX8_sheet 28 = .ok (.iload_n 2, 1) := by decide +kernel
theorem dX8_sheet_29 : decode cX8_sheet 29 = .ok (.iastore, 1) := by decide +kernel
theorem dX8_sheet_30 : decode cX8_sheet 30 = .ok (.aload_n 0, 1) := by decide +kernel
theorem dX8_sheet_31 : decode cX8_sheet 31 = .ok (.getfield 57, 3) := by decide +kernel
theorem dX8_sheet_34 : decode cX8_sheet 34 = .ok (.iload_n 1, 1) := by decide +kernel
theorem dX8_sheet_35 : decode cX8_sheet 35 = .ok (.iload_n 3, 1) := by decide +kernel
theorem dX8_sheet_36 : decode cX8_sheet 36 = .ok (.iastore, 1) := by decide +kernel
theorem dX8_sheet_37 : decode cX8_sheet 37 = .ok (.iconst 0, 1) := by decide +kernel
theorem dX8_sheet_38 : decode cX8_sheet 38 = .ok (.istore 4, 2) := by decide +kernel
theorem dX8_sheet_40 : decode cX8_sheet 40 = .ok (.iload 4, 2) := by decide +kernel
theorem dX8_sheet_42 : decode cX8_sheet 42 = .ok (.bipush 20, 2) := by decide +kernel
theorem dX8_sheet_44 : decode cX8_sheet 44 = .ok (.if_icmp .ge 22, 3) := by decide +kernel
theorem dX8_sheet_47 : decode cX8_sheet 47 = .ok (.aload_n 0, 1) := by decide +kernel
theorem dX8_sheet_48 : decode cX8_sheet 48 = .ok (.getfield 60, 3) := by decide +kernel
theorem dX8_sheet_51 : decode cX8_sheet 51 = .ok (.bipush 20, 2) := by decide +kernel
theorem dX8_sheet_53 : decode cX8_sheet 53 = .ok (.iload_n 1, 1) := by decide +kernel
theorem dX8_sheet_54 : decode cX8_sheet 54 = .ok (.imul, 1) := by decide +kernel
theorem dX8_sheet_55 : decode cX8_sheet 55 = .ok (.iload 4, 2) := by decide +kernel
theorem dX8_sheet_57 : decode cX8_sheet 57 = .ok (.iadd, 1) := by decide +kernel
theorem dX8_sheet_58 : decode cX8_sheet 58 = .ok (.iconst 0, 1) := by decide +kernel
theorem dX8_sheet_59 : decode cX8_sheet 59 = .ok (.iastore, 1) := by decide +kernel
theorem dX8_sheet_60 : decode cX8_sheet 60 = .ok (.iinc 4 1, 3) := by decide +kernel
theorem dX8_sheet_63 : decode cX8_sheet 63 = .ok (.goto (-23), 3) := by decide +kernel
theorem dX8_sheet_66 : decode cX8_sheet 66 = .ok (.iload_n 3, 1) := by decide +kernel
theorem dX8_sheet_67 : decode cX8_sheet 67 = .ok (.ireturn, 1) := by decide +kernel
set_option maxRecDepth 20000 in
theorem ggX8_away_X8_in : GoodIn wsX8_away wsX8_in := goodIn_r _ [7] rfl (by decide +kernel)
set_option maxRecDepth 20000 in
theorem gX8_away_X8_in : GoodIn wsX8_away (va_wsS RX8 79 yX8_in wsX8_in) := goodIn_app (goodIn_of _ (by decide +kernel)) ggX8_away_X8_in
theorem dX8_away_0 : decode cX8_away 0 = .ok (.iload_n 1, 1) := by decide +kernel
theorem dX8_away_1 : decode cX8_away 1 = .ok (.i2l, 1) := by decide +kernel
theorem dX8_away_2 : decode cX8_away 2 = .ok (.lconst 0, 1) := by decide +kernel
theorem dX8_away_3 : decode cX8_away 3 = .ok (.ldc2_w 122, 3) := by decide +kernel
theorem dX8_away_6 : decode cX8_away 6 = .ok (.invokestatic 79, 3) := by decide +kernel
theorem dX8_away_9 : decode cX8_away 9 = .ok (.ifCond .ne 5, 3) := by decide +kernel
theorem dX8_away_12 : decode cX8_away 12 = .ok (.iconst (-1), 1) := by decide +kernel
theorem dX8_away_13 : decode cX8_away 13 = .ok (.ireturn, 1) := by decide +kernel
theorem dX8_away_14 : decode cX8_away 14 = .ok (.aload_n 0, 1) := by decide +kernel
theorem dX8_away_15 : decode cX8_away 15 = .ok (.getfield 54, 3) := by decide +kernel
theorem dX8_away_18 : decode cX8_away 18 = .ok (.iload_n 1, 1) := by decide +kernel
theorem dX8_away_19 : decode cX8_away 19 = .ok (.iaload, 1) := by decide +kernel
theorem dX8_away_20 : decode cX8_away 20 = .ok (.ifCond .ge 6, 3) := by decide +kernel
theorem dX8_away_23 : decode cX8_away 23 = .ok (.bipush (-11), 2) := by decide +kernel
theorem dX8_away_25 : decode cX8_away 25 = .ok (.ireturn, 1) := by decide +kernel
theorem dX8_away_26 : decode cX8_away 26 = .ok (.aload_n 0, 1) := by decide +kernel
theorem dX8_away_27 : decode cX8_away 27 = .ok (.getfield 54, 3) := by decide +kernel
theorem dX8_away_30 : decode cX8_away 30 = .ok (.iload_n 1, 1) := by decide +kernel
theorem dX8_away_31 : decode cX8_away 31 = .ok (.iconst (-1), 1) := by decide +kernel
theorem dX8_away_32 : decode cX8_away 32 = .ok (.iastore, 1) := by decide +kernel
theorem dX8_away_33 : decode cX8_away 33 = .ok (.aload_n 0, 1) := by decide +kernel
theorem dX8_away_34 : decode cX8_away 34 = .ok (.getfield 57, 3) := by decide +kernel
theorem dX8_away_37 : decode cX8_away 37 = .ok (.iload_n 1, 1) := by decide +kernel
theorem dX8_away_38 : decode cX8_away 38 = .ok (.iaload, 1) := by decide +kernel
theorem dX8_away_39 : decode cX8_away 39 = .ok (.ireturn, 1) := by decide +kernel
set_option maxRecDepth 20000 in
theorem ggX8_item_X8_isSheet : GoodIn wsX8_item wsX8_isSheet := goodIn_r _ [7, 8, 9, 10, 11, 6, 12] rfl (by decide +kernel)
set_option maxRecDepth 20000 in
theorem gX8_item_X8_isSheet : GoodIn wsX8_item (va_wsS RX8 244 yX8_isSheet wsX8_isSheet) := goodIn_app (goodIn_of _ (by decide +kernel)) ggX8_item_X8_isSheet
set_option maxRecDepth 20000 in
theorem ggX8_item_X8_in : GoodIn wsX8_item wsX8_in := goodIn_r _ [12] rfl (by decide +kernel)
set_option maxRecDepth 20000 in
theorem gX8_item_X8_in : GoodIn wsX8_item (va_wsS RX8 79 yX8_in wsX8_in) := goodIn_app (goodIn_of _ (by decide +kernel)) ggX8_item_X8_in
theorem dX8_item_0 : decode cX8_item 0 = .ok (.iload_n 1, 1) := by decide +kernel
theorem dX8_item_1 : decode cX8_item 1 = .ok (.iload_n 2, 1) := by decide +kernel
theorem dX8_item_2 : decode cX8_item 2 = .ok (.invokestatic 244, 3) := by decide +kernel
theorem dX8_item_5 : decode cX8_item 5 = .ok (.ifCond .ne 5, 3) := by decide +kernel
theorem dX8_item_8 : decode cX8_item 8 = .ok (.iconst (-1), 1) := by decide +kernel
theorem dX8_item_9 : decode cX8_item 9 = .ok (.ireturn, 1) := by decide +kernel
theorem dX8_item_10 : decode cX8_item 10 = .ok (.aload_n 0, 1) := by decide +kernel
theorem dX8_item_11 : decode cX8_item 11 = .ok (.getfield 54, 3) := by decide +kernel
theorem dX8_item_14 : decode cX8_item 14 = .ok (.iload_n 1, 1) := by decide +kernel
theorem dX8_item_15 : decode cX8_item 15 = .ok (.iaload, 1) := by decide +kernel
theorem dX8_item_16 : decode cX8_item 16 = .ok (.iload_n 2, 1) := by decide +kernel
theorem dX8_item_17 : decode cX8_item 17 = .ok (.if_icmp .eq 20, 3) := by decide +kernel
theorem dX8_item_20 : decode cX8_item 20 = .ok (.aload_n 0, 1) := by decide +kernel
theorem dX8_item_21 : decode cX8_item 21 = .ok (.getfield 54, 3) := by decide +kernel
theorem dX8_item_24 : decode cX8_item 24 = .ok (.iload_n 1, 1) := by decide +kernel
theorem dX8_item_25 : decode cX8_item 25 = .ok (.iaload, 1) := by decide +kernel
theorem dX8_item_26 : decode cX8_item 26 = .ok (.ifCond .ge 8, 3) := by decide +kernel
theorem dX8_item_29 : decode cX8_item 29 = .ok (.bipush (-11), 2) := by decide +kernel
theorem dX8_item_31 : decode cX8_item 31 = .ok (.goto 5, 3) := by decide +kernel
theorem dX8_item_34 : decode cX8_item 34 = .ok (.bipush (-12), 2) := by decide +kernel
theorem dX8_item_36 : decode cX8_item 36 = .ok (.ireturn, 1) := by decide +kernel
theorem dX8_item_37 : decode cX8_item 37 = .ok (.iload_n 3, 1) := by decide +kernel
theorem dX8_item_38 : decode cX8_item 38 = .ok (.i2l, 1) := by decide +kernel
theorem dX8_item_39 : decode cX8_item 39 = .ok (.lconst 0, 1) := by decide +kernel
theorem dX8_item_40 : decode cX8_item 40 = .ok (.aload_n 0, 1) := by decide +kernel
theorem dX8_item_41 : decode cX8_item 41 = .ok (.getfield 57, 3) := by decide +kernel
theorem dX8_item_44 : decode cX8_item 44 = .ok (.iload_n 1, 1) := by decide +kernel
theorem dX8_item_45 : decode cX8_item 45 = .ok (.iaload, 1) := by decide +kernel
theorem dX8_item_46 : decode cX8_item 46 = .ok (.iconst 1, 1) := by decide +kernel
theorem dX8_item_47 : decode cX8_item 47 = .ok (.isub, 1) := by decide +kernel
theorem dX8_item_48 : decode cX8_item 48 = .ok (.i2l, 1) := by decide +kernel
theorem dX8_item_49 : decode cX8_item 49 = .ok (.invokestatic 79, 3) := by decide +kernel
theorem dX8_item_52 : decode cX8_item 52 = .ok (.ifCond .ne 6, 3) := by decide +kernel
theorem dX8_item_55 : decode cX8_item 55 = .ok (.bipush (-13), 2) := by decide +kernel
theorem dX8_item_57 : decode cX8_item 57 = .ok (.ireturn, 1) := by decide +kernel
theorem dX8_item_58 : decode cX8_item 58 = .ok (.aload_n 0, 1) := by decide +kernel
theorem dX8_item_59 : decode cX8_item 59 = .ok (.getfield 60, 3) := by decide +kernel
theorem dX8_item_62 : decode cX8_item 62 = .ok (.bipush 20, 2) := by decide +kernel
theorem dX8_item_64 : decode cX8_item 64 = .ok (.iload_n 1, 1) := by decide +kernel
theorem dX8_item_65 : decode cX8_item 65 = .ok (.imul, 1) := by decide +kernel
theorem dX8_item_66 : decode cX8_item 66 = .ok (.iload_n 3, 1) := by decide +kernel
theorem dX8_item_67 : decode cX8_item 67 = .ok (.iadd, 1) := by decide +kernel
theorem dX8_item_68 : decode cX8_item 68 = .ok (.iload_n 2, 1) := by decide +kernel
theorem dX8_item_69 : decode cX8_item 69 = .ok (.ifCond .ne 14, 3) := by decide +kernel
theorem dX8_item_72 : decode cX8_item 72 = .ok (.iload 4, 2) := by decide +kernel
theorem dX8_item_74 : decode cX8_item 74 = .ok (.bipush 24, 2) := by decide +kernel
theorem dX8_item_76 : decode cX8_item 76 = .ok (.ishl, 1) := by decide +kernel
theorem dX8_item_77 : decode cX8_item 77 = .ok (.bipush 24, 2) := by decide +kernel
theorem dX8_item_79 : decode cX8_item 79 = .ok (.ishr, 1) := by decide +kernel
theorem dX8_item_80 : decode cX8_item 80 = .ok (.goto 5, 3) := by decide +kernel
theorem dX8_item_83 : decode cX8_item 83 = .ok (.iload 4, 2) := by decide +kernel
theorem dX8_item_85 : decode cX8_item 85 = .ok (.iastore, 1) := by decide +kernel
theorem dX8_item_86 : decode cX8_item 86 = .ok (.iconst 1, 1) := by decide +kernel
theorem dX8_item_87 : decode cX8_item 87 = .ok (.ireturn, 1) := by decide +kernel
set_option maxRecDepth 20000 in
theorem ggX8_terms_X8_isLine : GoodIn wsX8_terms wsX8_isLine := goodIn_r _ [10, 11, 12, 13, 9, 14] rfl (by decide +kernel)
set_option maxRecDepth 20000 in
theorem gX8_terms_X8_isLine : GoodIn wsX8_terms (va_wsS RX8 124 yX8_isLine wsX8_isLine) := goodIn_app (goodIn_of _ (by decide +kernel)) ggX8_terms_X8_isLine
set_option maxRecDepth 20000 in
theorem ggX8_terms_X8_isSheet : GoodIn wsX8_terms wsX8_isSheet := goodIn_r _ [17, 11, 18, 12, 13, 9, 14] rfl (by decide +kernel)
set_option maxRecDepth 20000 in
theorem gX8_terms_X8_isSheet : GoodIn wsX8_terms (va_wsS RX8 244 yX8_isSheet wsX8_isSheet) := goodIn_app (goodIn_of _ (by decide +kernel)) ggX8_terms_X8_isSheet
set_option maxRecDepth 20000 in
theorem ggX8_terms_X8_in : GoodIn wsX8_terms wsX8_in := goodIn_r _ [14] rfl (by decide +kernel)
set_option maxRecDepth 20000 in
theorem gX8_terms_X8_in : GoodIn wsX8_terms (va_wsS RX8 79 yX8_in wsX8_in) := goodIn_app (goodIn_of _ (by decide +kernel)) ggX8_terms_X8_in
set_option maxRecDepth 20000 in
theorem ggX8_terms_X8_keep : GoodIn wsX8_terms wsX8_keep := goodIn_r _ [22, 3, 23, 24, 25, 26, 27, 28, 29, 30, 9, 31, 32, 33, 34, 35, 36, 37, 38, 39, 40, 41, 42, 43, 44, 45, 46, 47, 48, 49, 50, 51, 52, 53, 54, 55, 12, 13, 14, 56, 57, 58, 59, 60, 61, 62, 63, 64, 65, 66, 67, 68, 69, 70, 71, 72, 73, 74, 75, 76, 77, 78, 79, 80, 81, 82, 83, 84, 85, 86, 87, 88, 89, 90, 91, 92, 93, 94, 95, 96, 97, 98, 99] rfl (by decide +kernel)
set_option maxRecDepth 20000 in
theorem gX8_terms_X8_keep : GoodIn wsX8_terms (wsV RX8 160 RX8 yX8_keep wsX8_keep) := goodIn_app (goodIn_of _ (by decide +kernel)) ggX8_terms_X8_keep
theorem dX8_terms_0 : decode cX8_terms 0 = .ok (.iload_n 1, 1) := by decide +kernel
theorem dX8_terms_1 : decode cX8_terms 1 = .ok (.invokestatic 124, 3) := by decide +kernel
theorem dX8_terms_4 : decode cX8_terms 4 = .ok (.ifCond .eq 11, 3) := by decide +kernel
theorem dX8_terms_7 : decode cX8_terms 7 = .ok (.iload_n 2, 1) := by decide +kernel
theorem dX8_terms_8 : decode cX8_terms 8 = .ok (.iload_n 3, 1) := by decide +kernel
theorem dX8_terms_9 : decode cX8_terms 9 = .ok (.invokestatic 244, 3) := by decide +kernel
theorem dX8_terms_12 : decode cX8_terms 12 = .ok (.ifCond .ne 5, 3) := by decide +kernel
theorem dX8_terms_15 : decode cX8_terms 15 = .ok (.iconst (-1), 1) := by decide +kernel
theorem dX8_terms_16 : decode cX8_terms 16 = .ok (.ireturn, 1) := by decide +kernel
theorem dX8_terms_17 : decode cX8_terms 17 = .ok (.aload_n 0, 1) := by decide +kernel
theorem dX8_terms_18 : decode cX8_terms 18 = .ok (.getfield 54, 3) := by decide +kernel
theorem dX8_terms_21 : decode cX8_terms 21 = .ok (.iload_n 2, 1) := by decide +kernel
theorem dX8_terms_22 : decode cX8_terms 22 = .ok (.iaload, 1) := by decide +kernel
theorem dX8_terms_23 : decode cX8_terms 23 = .ok (.iload_n 3, 1) := by decide +kernel
theorem dX8_terms_24 : decode cX8_terms 24 = .ok (.if_icmp .eq 20, 3) := by decide +kernel
theorem dX8_terms_27 : decode cX8_terms 27 = .ok (.aload_n 0, 1) := by decide +kernel
theorem dX8_terms_28 : decode cX8_terms 28 = .ok (.getfield 54, 3) := by decide +kernel
theorem dX8_terms_31 : decode cX8_terms 31 = .ok (.iload_n 2, 1) := by decide +kernel
theorem dX8_terms_32 : decode cX8_terms 32 = .ok (.iaload, 1) := by decide +kernel
theorem dX8_terms_33 : decode cX8_terms 33 = .ok (.ifCond .ge 8, 3) := by decide +kernel
theorem dX8_terms_36 : decode cX8_terms 36 = .ok (.bipush (-11), 2) := by decide +kernel
theorem dX8_terms_38 : decode cX8_terms 38 = .ok (.goto 5, 3) := by decide +kernel
theorem dX8_terms_41 : decode cX8_terms 41 = .ok (.bipush (-12), 2) := by decide +kernel
theorem dX8_terms_43 : decode cX8_terms 43 = .ok (.ireturn, 1) := by decide +kernel
theorem dX8_terms_44 : decode cX8_terms 44 = .ok (.iload 4, 2) := by decide +kernel
theorem dX8_terms_46 : decode cX8_terms 46 = .ok (.i2l, 1) := by decide +kernel
theorem dX8_terms_47 : decode cX8_terms 47 = .ok (.lconst 0, 1) := by decide +kernel
theorem dX8_terms_48 : decode cX8_terms 48 = .ok (.aload_n 0, 1) := by decide +kernel
theorem dX8_terms_49 : decode cX8_terms 49 = .ok (.getfield 57, 3) := by decide +kernel
theorem dX8_terms_52 : decode cX8_terms 52 = .ok (.iload_n 2, 1) := by decide +kernel
theorem dX8_terms_53 : decode cX8_terms 53 = .ok (.iaload, 1) := by decide +kernel
theorem dX8_terms_54 : decode cX8_terms 54 = .ok (.bipush 12, 2) := by decide +kernel
theorem dX8_terms_56 : decode cX8_terms 56 = .ok (.isub, 1) := by decide +kernel
theorem dX8_terms_57 : decode cX8_terms 57 = .ok (.i2l, 1) := by decide +kernel
theorem dX8_terms_58 : decode cX8_terms 58 = .ok (.invokestatic 79, 3) := by decide +kernel
theorem dX8_terms_61 : decode cX8_terms 61 = .ok (.ifCond .ne 6, 3) := by decide +kernel
theorem dX8_terms_64 : decode cX8_terms 64 = .ok (.bipush (-13), 2) := by decide +kernel
theorem dX8_terms_66 : decode cX8_terms 66 = .ok (.ireturn, 1) := by decide +kernel
theorem dX8_terms_67 : decode cX8_terms 67 = .ok (.iconst 0, 1) := by decide +kernel
theorem dX8_terms_68 : decode cX8_terms 68 = .ok (.istore 5, 2) := by decide +kernel
theorem dX8_terms_70 : decode cX8_terms 70 = .ok (.iload 5, 2) := by decide +kernel
theorem dX8_terms_72 : decode cX8_terms 72 = .ok (.bipush 12, 2) := by decide +kernel
theorem dX8_terms_74 : decode cX8_terms 74 = .ok (.if_icmp .ge 54, 3) := by decide +kernel
theorem dX8_terms_77 : decode cX8_terms 77 = .ok (.aload_n 0, 1) := by decide +kernel
theorem dX8_terms_78 : decode cX8_terms 78 = .ok (.getfield 17, 3) := by decide +kernel
theorem dX8_terms_81 : decode cX8_terms 81 = .ok (.iload 5, 2) := by decide +kernel
theorem dX8_terms_83 : decode cX8_terms 83 = .ok (.aload_n 0, 1) := by decide +kernel
theorem dX8_terms_84 : decode cX8_terms 84 = .ok (.getfield 60, 3) := by decide +kernel
theorem dX8_terms_87 : decode cX8_terms 87 = .ok (.bipush 20, 2) := by decide +kernel
theorem dX8_terms_89 : decode cX8_terms 89 = .ok (.iload_n 2, 1) := by decide +kernel
theorem dX8_terms_90 : decode cX8_terms 90 = .ok (.imul, 1) := by decide +kernel
theorem dX8_terms_91 : decode cX8_terms 91 = .ok (.iload 4, 2) := by decide +kernel
theorem dX8_terms_93 : decode cX8_terms 93 = .ok (.iadd, 1) := by decide +kernel
theorem dX8_terms_94 : decode cX8_terms 94 = .ok (.iload 5, 2) := by decide +kernel
theorem dX8_terms_96 : decode cX8_terms 96 = .ok (.iadd, 1) := by decide +kernel
theorem dX8_terms_97 : decode cX8_terms 97 = .ok (.iaload, 1) := by decide +kernel
theorem dX8_terms_98 : decode cX8_terms 98 = .ok (.i2l, 1) := by decide +kernel
theorem dX8_terms_99 : decode cX8_terms 99 = .ok (.lastore, 1) := by decide +kernel
theorem dX8_terms_100 : decode cX8_terms 100 = .ok (.aload_n 0, 1) := by decide +kernel
theorem dX8_terms_101 : decode cX8_terms 101 = .ok (.getfield 17, 3) := by decide +kernel
theorem dX8_terms_104 : decode cX8_terms 104 = .ok (.iload 5, 2) := by decide +kernel
theorem dX8_terms_106 : decode cX8_terms 106 = .ok (.laload, 1) := by decide +kernel
theorem dX8_terms_107 : decode cX8_terms 107 = .ok (.ldc2_w 247, 3) := by decide +kernel
theorem dX8_terms_110 : decode cX8_terms 110 = .ok (.ldc2_w 249, 3) := by decide +kernel
theorem dX8_terms_113 : decode cX8_terms 113 = .ok (.invokestatic 79, 3) := by decide +kernel
theorem dX8_terms_116 : decode cX8_terms 116 = .ok (.ifCond .ne 6, 3) := by decide +kernel
theorem dX8_terms_119 : decode cX8_terms 119 = .ok (.bipush (-2), 2) := by decide +kernel
theorem dX8_terms_121 : decode cX8_terms 121 = .ok (.ireturn, 1) := by decide +kernel
theorem dX8_terms_122 : decode cX8_terms 122 = .ok (.iinc 5 1, 3) := by decide +kernel
theorem dX8_terms_125 : decode cX8_terms 125 = .ok (.goto (-55), 3) := by decide +kernel
theorem dX8_terms_128 : decode cX8_terms 128 = .ok (.aload_n 0, 1) := by decide +kernel
theorem dX8_terms_129 : decode cX8_terms 129 = .ok (.iload_n 1, 1) := by decide +kernel
theorem dX8_terms_130 : decode cX8_terms 130 = .ok (.invokevirtual 160, 3) := by decide +kernel
theorem dX8_terms_133 : decode cX8_terms 133 = .ok (.ireturn, 1) := by decide +kernel
theorem dJ13_signum_95d88_0 : decode cJ13_signum_95d88 0 = .ok (.lload_n 0, 1) := by decide +kernel
theorem dJ13_signum_95d88_1 : decode cJ13_signum_95d88 1 = .ok (.bipush 63, 2) := by decide +kernel
theorem dJ13_signum_95d88_3 : decode cJ13_signum_95d88 3 = .ok (.lshr, 1) := by decide +kernel
theorem dJ13_signum_95d88_4 : decode cJ13_signum_95d88 4 = .ok (.lload_n 0, 1) := by decide +kernel
theorem dJ13_signum_95d88_5 : decode cJ13_signum_95d88 5 = .ok (.lneg, 1) := by decide +kernel
theorem dJ13_signum_95d88_6 : decode cJ13_signum_95d88 6 = .ok (.bipush 63, 2) := by decide +kernel
theorem dJ13_signum_95d88_8 : decode cJ13_signum_95d88 8 = .ok (.lushr, 1) := by decide +kernel
theorem dJ13_signum_95d88_9 : decode cJ13_signum_95d88 9 = .ok (.lor, 1) := by decide +kernel
theorem dJ13_signum_95d88_10 : decode cJ13_signum_95d88 10 = .ok (.l2i, 1) := by decide +kernel
theorem dJ13_signum_95d88_11 : decode cJ13_signum_95d88 11 = .ok (.ireturn, 1) := by decide +kernel
theorem dJ9_abs_067f4_0 : decode cJ9_abs_067f4 0 = .ok (.lload_n 0, 1) := by decide +kernel
theorem dJ9_abs_067f4_1 : decode cJ9_abs_067f4 1 = .ok (.lconst 0, 1) := by decide +kernel
theorem dJ9_abs_067f4_2 : decode cJ9_abs_067f4 2 = .ok (.lcmp, 1) := by decide +kernel
theorem dJ9_abs_067f4_3 : decode cJ9_abs_067f4 3 = .ok (.ifCond .ge 8, 3) := by decide +kernel
theorem dJ9_abs_067f4_6 : decode cJ9_abs_067f4 6 = .ok (.lload_n 0, 1) := by decide +kernel
theorem dJ9_abs_067f4_7 : decode cJ9_abs_067f4 7 = .ok (.lneg, 1) := by decide +kernel
theorem dJ9_abs_067f4_8 : decode cJ9_abs_067f4 8 = .ok (.goto 4, 3) := by decide +kernel
theorem dJ9_abs_067f4_11 : decode cJ9_abs_067f4 11 = .ok (.lload_n 0, 1) := by decide +kernel
theorem dJ9_abs_067f4_12 : decode cJ9_abs_067f4 12 = .ok (.lreturn, 1) := by decide +kernel
theorem dJ9_max_7cf53_0 : decode cJ9_max_7cf53 0 = .ok (.iload_n 0, 1) := by decide +kernel
theorem dJ9_max_7cf53_1 : decode cJ9_max_7cf53 1 = .ok (.iload_n 1, 1) := by decide +kernel
theorem dJ9_max_7cf53_2 : decode cJ9_max_7cf53 2 = .ok (.if_icmp .lt 7, 3) := by decide +kernel
theorem dJ9_max_7cf53_5 : decode cJ9_max_7cf53 5 = .ok (.iload_n 0, 1) := by decide +kernel
theorem dJ9_max_7cf53_6 : decode cJ9_max_7cf53 6 = .ok (.goto 4, 3) := by decide +kernel
theorem dJ9_max_7cf53_9 : decode cJ9_max_7cf53 9 = .ok (.iload_n 1, 1) := by decide +kernel
theorem dJ9_max_7cf53_10 : decode cJ9_max_7cf53 10 = .ok (.ireturn, 1) := by decide +kernel
theorem dJ9_max_f86c9_0 : decode cJ9_max_f86c9 0 = .ok (.lload_n 0, 1) := by decide +kernel
theorem dJ9_max_f86c9_1 : decode cJ9_max_f86c9 1 = .ok (.lload_n 2, 1) := by decide +kernel
theorem dJ9_max_f86c9_2 : decode cJ9_max_f86c9 2 = .ok (.lcmp, 1) := by decide +kernel
theorem dJ9_max_f86c9_3 : decode cJ9_max_f86c9 3 = .ok (.ifCond .lt 7, 3) := by decide +kernel
theorem dJ9_max_f86c9_6 : decode cJ9_max_f86c9 6 = .ok (.lload_n 0, 1) := by decide +kernel
theorem dJ9_max_f86c9_7 : decode cJ9_max_f86c9 7 = .ok (.goto 4, 3) := by decide +kernel
theorem dJ9_max_f86c9_10 : decode cJ9_max_f86c9 10 = .ok (.lload_n 2, 1) := by decide +kernel
theorem dJ9_max_f86c9_11 : decode cJ9_max_f86c9 11 = .ok (.lreturn, 1) := by decide +kernel
theorem dJ9_min_7cf53_0 : decode cJ9_min_7cf53 0 = .ok (.iload_n 0, 1) := by decide +kernel
theorem dJ9_min_7cf53_1 : decode cJ9_min_7cf53 1 = .ok (.iload_n 1, 1) := by decide +kernel
theorem dJ9_min_7cf53_2 : decode cJ9_min_7cf53 2 = .ok (.if_icmp .gt 7, 3) := by decide +kernel
theorem dJ9_min_7cf53_5 : decode cJ9_min_7cf53 5 = .ok (.iload_n 0, 1) := by decide +kernel
theorem dJ9_min_7cf53_6 : decode cJ9_min_7cf53 6 = .ok (.goto 4, 3) := by decide +kernel
theorem dJ9_min_7cf53_9 : decode cJ9_min_7cf53 9 = .ok (.iload_n 1, 1) := by decide +kernel
theorem dJ9_min_7cf53_10 : decode cJ9_min_7cf53 10 = .ok (.ireturn, 1) := by decide +kernel
theorem dJ9_min_f86c9_0 : decode cJ9_min_f86c9 0 = .ok (.lload_n 0, 1) := by decide +kernel
theorem dJ9_min_f86c9_1 : decode cJ9_min_f86c9 1 = .ok (.lload_n 2, 1) := by decide +kernel
theorem dJ9_min_f86c9_2 : decode cJ9_min_f86c9 2 = .ok (.lcmp, 1) := by decide +kernel
theorem dJ9_min_f86c9_3 : decode cJ9_min_f86c9 3 = .ok (.ifCond .gt 7, 3) := by decide +kernel
theorem dJ9_min_f86c9_6 : decode cJ9_min_f86c9 6 = .ok (.lload_n 0, 1) := by decide +kernel
theorem dJ9_min_f86c9_7 : decode cJ9_min_f86c9 7 = .ok (.goto 4, 3) := by decide +kernel
theorem dJ9_min_f86c9_10 : decode cJ9_min_f86c9 10 = .ok (.lload_n 2, 1) := by decide +kernel
theorem dJ9_min_f86c9_11 : decode cJ9_min_f86c9 11 = .ok (.lreturn, 1) := by decide +kernel
theorem dJ7_fill_d0a16_0 : decode cJ7_fill_d0a16 0 = .ok (.iconst 0, 1) := by decide +kernel
theorem dJ7_fill_d0a16_1 : decode cJ7_fill_d0a16 1 = .ok (.istore_n 3, 1) := by decide +kernel
theorem dJ7_fill_d0a16_2 : decode cJ7_fill_d0a16 2 = .ok (.aload_n 0, 1) := by decide +kernel
theorem dJ7_fill_d0a16_3 : decode cJ7_fill_d0a16 3 = .ok (.arraylength, 1) := by decide +kernel
theorem dJ7_fill_d0a16_4 : decode cJ7_fill_d0a16 4 = .ok (.istore 4, 2) := by decide +kernel
theorem dJ7_fill_d0a16_6 : decode cJ7_fill_d0a16 6 = .ok (.iload_n 3, 1) := by decide +kernel
theorem dJ7_fill_d0a16_7 : decode cJ7_fill_d0a16 7 = .ok (.iload 4, 2) := by decide +kernel
theorem dJ7_fill_d0a16_9 : decode cJ7_fill_d0a16 9 = .ok (.if_icmp .ge 13, 3) := by decide +kernel
theorem dJ7_fill_d0a16_12 : decode cJ7_fill_d0a16 12 = .ok (.aload_n 0, 1) := by decide +kernel
theorem dJ7_fill_d0a16_13 : decode cJ7_fill_d0a16 13 = .ok (.iload_n 3, 1) := by decide +kernel
theorem dJ7_fill_d0a16_14 : decode cJ7_fill_d0a16 14 = .ok (.lload_n 1, 1) := by decide +kernel
theorem dJ7_fill_d0a16_15 : decode cJ7_fill_d0a16 15 = .ok (.lastore, 1) := by decide +kernel
theorem dJ7_fill_d0a16_16 : decode cJ7_fill_d0a16 16 = .ok (.iinc 3 1, 3) := by decide +kernel
theorem dJ7_fill_d0a16_19 : decode cJ7_fill_d0a16 19 = .ok (.goto (-13), 3) := by decide +kernel
theorem dJ7_fill_d0a16_22 : decode cJ7_fill_d0a16 22 = .ok (.return_, 1) := by decide +kernel
theorem dL_law_0 : decode cL_law 0 = .ok (.new 7, 3) := by decide +kernel
theorem dL_law_3 : decode cL_law 3 = .ok (.dup, 1) := by decide +kernel
theorem dL_law_4 : decode cL_law 4 = .ok (.invokespecial 9, 3) := by decide +kernel
theorem dL_law_7 : decode cL_law 7 = .ok (.astore_n 1, 1) := by decide +kernel
theorem dL_law_8 : decode cL_law 8 = .ok (.new 10, 3) := by decide +kernel
theorem dL_law_11 : decode cL_law 11 = .ok (.dup, 1) := by decide +kernel
theorem dL_law_12 : decode cL_law 12 = .ok (.invokespecial 12, 3) := by decide +kernel
theorem dL_law_15 : decode cL_law 15 = .ok (.astore_n 2, 1) := by decide +kernel
theorem dL_law_16 : decode cL_law 16 = .ok (.iconst 0, 1) := by decide +kernel
theorem dL_law_17 : decode cL_law 17 = .ok (.istore_n 3, 1) := by decide +kernel
theorem dL_law_18 : decode cL_law 18 = .ok (.iload_n 3, 1) := by decide +kernel
theorem dL_law_19 : decode cL_law 19 = .ok (.aload_n 0, 1) := by decide +kernel
theorem dL_law_20 : decode cL_law 20 = .ok (.arraylength, 1) := by decide +kernel
theorem dL_law_21 : decode cL_law 21 = .ok (.bipush 8, 2) := by decide +kernel
theorem dL_law_23 : decode cL_law 23 = .ok (.isub, 1) := by decide +kernel
theorem dL_law_24 : decode cL_law 24 = .ok (.if_icmp .gt 1144, 3) := by decide +kernel
theorem dL_law_27 : decode cL_law 27 = .ok (.aload_n 0, 1) := by decide +kernel
theorem dL_law_28 : decode cL_law 28 = .ok (.iload_n 3, 1) := by decide +kernel
theorem dL_law_29 : decode cL_law 29 = .ok (.iaload, 1) := by decide +kernel
theorem dL_law_30 : decode cL_law 30 = .ok (.bipush 31, 2) := by decide +kernel
theorem dL_law_32 : decode cL_law 32 = .ok (.iand, 1) := by decide +kernel
theorem dL_law_33 : decode cL_law 33 = .ok (.tableswitch 1129 0 24 #[115, 178, 201, 224, 247, 270, 313, 377, 410, 444, 467, 490, 543, 577, 611, 634, 687, 741, 774, 837, 924, 957, 1000, 1023, 1076], 115) := by decide +kernel
theorem dL_law_148 : decode cL_law 148 = .ok (.aload_n 1, 1) := by decide +kernel
theorem dL_law_149 : decode cL_law 149 = .ok (.aload_n 0, 1) := by decide +kernel
theorem dL_law_150 : decode cL_law 150 = .ok (.iload_n 3, 1) := by decide +kernel
theorem dL_law_151 : decode cL_law 151 = .ok (.iconst 1, 1) := by decide +kernel
theorem dL_law_152 : decode cL_law 152 = .ok (.iadd, 1) := by decide +kernel
theorem dL_law_153 : decode cL_law 153 = .ok (.iaload, 1) := by decide +kernel
theorem dL_law_154 : decode cL_law 154 = .ok (.i2l, 1) := by decide +kernel
theorem dL_law_155 : decode cL_law 155 = .ok (.bipush 32, 2) := by decide +kernel
theorem dL_law_157 : decode cL_law 157 = .ok (.lshl, 1) := by decide +kernel
theorem dL_law_158 : decode cL_law 158 = .ok (.aload_n 0, 1) := by decide +kernel
theorem dL_law_159 : decode cL_law 159 = .ok (.iload_n 3, 1) := by decide +kernel
theorem dL_law_160 : decode cL_law 160 = .ok (.iconst 2, 1) := by decide +kernel
theorem dL_law_161 : decode cL_law 161 = .ok (.iadd, 1) := by decide +kernel
theorem dL_law_162 : decode cL_law 162 = .ok (.iaload, 1) := by decide +kernel
theorem dL_law_163 : decode cL_law 163 = .ok (.i2l, 1) := by decide +kernel
theorem dL_law_164 : decode cL_law 164 = .ok (.ldc2_w 13, 3) := by decide +kernel
theorem dL_law_167 : decode cL_law 167 = .ok (.land, 1) := by decide +kernel
theorem dL_law_168 : decode cL_law 168 = .ok (.lor, 1) := by decide +kernel
theorem dL_law_169 : decode cL_law 169 = .ok (.aload_n 0, 1) := by decide +kernel
theorem dL_law_170 : decode cL_law 170 = .ok (.iload_n 3, 1) := by decide +kernel
theorem dL_law_171 : decode cL_law 171 = .ok (.iconst 3, 1) := by decide +kernel
theorem dL_law_172 : decode cL_law 172 = .ok (.iadd, 1) := by decide +kernel
theorem dL_law_173 : decode cL_law 173 = .ok (.iaload, 1) := by decide +kernel
theorem dL_law_174 : decode cL_law 174 = .ok (.invokevirtual 15, 3) := by decide +kernel
theorem dL_law_177 : decode cL_law 177 = .ok (.aload_n 2, 1) := by decide +kernel
theorem dL_law_178 : decode cL_law 178 = .ok (.aload_n 0, 1) := by decide +kernel
theorem dL_law_179 : decode cL_law 179 = .ok (.iload_n 3, 1) := by decide +kernel
theorem dL_law_180 : decode cL_law 180 = .ok (.iconst 1, 1) := by decide +kernel
theorem dL_law_181 : decode cL_law 181 = .ok (.iadd, 1) := by decide +kernel
theorem dL_law_182 : decode cL_law 182 = .ok (.iaload, 1) := by decide +kernel
theorem dL_law_183 : decode cL_law 183 = .ok (.i2l, 1) := by decide +kernel
theorem dL_law_184 : decode cL_law 184 = .ok (.bipush 32, 2) := by decide +kernel
theorem dL_law_186 : decode cL_law 186 = .ok (.lshl, 1) := by decide +kernel
theorem dL_law_187 : decode cL_law 187 = .ok (.aload_n 0, 1) := by decide +kernel
theorem dL_law_188 : decode cL_law 188 = .ok (.iload_n 3, 1) := by decide +kernel
theorem dL_law_189 : decode cL_law 189 = .ok (.iconst 2, 1) := by decide +kernel
theorem dL_law_190 : decode cL_law 190 = .ok (.iadd, 1) := by decide +kernel
theorem dL_law_191 : decode cL_law 191 = .ok (.iaload, 1) := by decide +kernel
theorem dL_law_192 : decode cL_law 192 = .ok (.i2l, 1) := by decide +kernel
theorem dL_law_193 : decode cL_law 193 = .ok (.ldc2_w 13, 3) := by decide +kernel
theorem dL_law_196 : decode cL_law 196 = .ok (.land, 1) := by decide +kernel
theorem dL_law_197 : decode cL_law 197 = .ok (.lor, 1) := by decide +kernel
theorem dL_law_198 : decode cL_law 198 = .ok (.aload_n 0, 1) := by decide +kernel
theorem dL_law_199 : decode cL_law 199 = .ok (.iload_n 3, 1) := by decide +kernel
theorem dL_law_200 : decode cL_law 200 = .ok (.iconst 3, 1) := by decide +kernel
theorem dL_law_201 : decode cL_law 201 = .ok (.iadd, 1) := by decide +kernel
theorem dL_law_202 : decode cL_law 202 = .ok (.iaload, 1) := by decide +kernel
theorem dL_law_203 : decode cL_law 203 = .ok (.invokevirtual 19, 3) := by decide +kernel
theorem dL_law_206 : decode cL_law 206 = .ok (.if_icmp .eq 956, 3) := by decide +kernel
theorem dL_law_209 : decode cL_law 209 = .ok (.iconst 0, 1) := by decide +kernel
theorem dL_law_210 : decode cL_law 210 = .ok (.ireturn, 1) := by decide +kernel
theorem dL_law_211 : decode cL_law 211 = .ok (.aload_n 1, 1) := by decide +kernel
theorem dL_law_212 : decode cL_law 212 = .ok (.aload_n 0, 1) := by decide +kernel
theorem dL_law_213 : decode cL_law 213 = .ok (.iload_n 3, 1) := by decide +kernel
theorem dL_law_214 : decode cL_law 214 = .ok (.iconst 1, 1) := by decide +kernel
theorem dL_law_215 : decode cL_law 215 = .ok (.iadd, 1) := by decide +kernel
theorem dL_law_216 : decode cL_law 216 = .ok (.iaload, 1) := by decide +kernel
theorem dL_law_217 : decode cL_law 217 = .ok (.invokevirtual 20, 3) := by decide +kernel
theorem dL_law_220 : decode cL_law 220 = .ok (.aload_n 2, 1) := by decide +kernel
theorem dL_law_221 : decode cL_law 221 = .ok (.aload_n 0, 1) := by decide +kernel
theorem dL_law_222 : decode cL_law 222 = .ok (.iload_n 3, 1) := by decide +kernel
theorem dL_law_223 : decode cL_law 223 = .ok (.iconst 1, 1) := by decide +kernel
theorem dL_law_224 : decode cL_law 224 = .ok (.iadd, 1) := by decide +kernel
theorem dL_law_225 : decode cL_law 225 = .ok (.iaload, 1) := by decide +kernel
theorem dL_law_226 : decode cL_law 226 = .ok (.invokevirtual 24, 3) := by decide +kernel
theorem dL_law_229 : decode cL_law 229 = .ok (.if_icmp .eq 933, 3) := by decide +kernel
theorem dL_law_232 : decode cL_law 232 = .ok (.iconst 0, 1) := by decide +kernel
theorem dL_law_233 : decode cL_law 233 = .ok (.ireturn, 1) := by decide +kernel
theorem dL_law_234 : decode cL_law 234 = .ok (.aload_n 1, 1) := by decide +kernel
theorem dL_law_235 : decode cL_law 235 = .ok (.aload_n 0, 1) := by decide +kernel
theorem dL_law_236 : decode cL_law 236 = .ok (.iload_n 3, 1) := by decide +kernel
theorem dL_law_237 : decode cL_law 237 = .ok (.iconst 1, 1) := by decide +kernel
theorem dL_law_238 : decode cL_law 238 = .ok (.iadd, 1) := by decide +kernel
theorem dL_law_239 : decode cL_law 239 = .ok (.iaload, 1) := by decide +kernel
theorem dL_law_240 : decode cL_law 240 = .ok (.invokevirtual 25, 3) := by decide +kernel
theorem dL_law_243 : decode cL_law 243 = .ok (.aload_n 2, 1) := by decide +kernel
theorem dL_law_244 : decode cL_law 244 = .ok (.aload_n 0, 1) := by decide +kernel
theorem dL_law_245 : decode cL_law 245 = .ok (.iload_n 3, 1) := by decide +kernel
theorem dL_law_246 : decode cL_law 246 = .ok (.iconst 1, 1) := by decide +kernel
theorem dL_law_247 : decode cL_law 247 = .ok (.iadd, 1) := by decide +kernel
theorem dL_law_248 : decode cL_law 248 = .ok (.iaload, 1) := by decide +kernel
theorem dL_law_249 : decode cL_law 249 = .ok (.invokevirtual 28, 3) := by decide +kernel
theorem dL_law_252 : decode cL_law 252 = .ok (.if_icmp .eq 910, 3) := by decide +kernel
theorem dL_law_255 : decode cL_law 255 = .ok (.iconst 0, 1) := by decide +kernel
theorem dL_law_256 : decode cL_law 256 = .ok (.ireturn, 1) := by decide +kernel
theorem dL_law_257 : decode cL_law 257 = .ok (.aload_n 1, 1) := by decide +kernel
theorem dL_law_258 : decode cL_law 258 = .ok (.aload_n 0, 1) := by decide +kernel
theorem dL_law_259 : decode cL_law 259 = .ok (.iload_n 3, 1) := by decide +kernel
theorem dL_law_260 : decode cL_law 260 = .ok (.iconst 1, 1) := by decide +kernel
theorem dL_law_261 : decode cL_law 261 = .ok (.iadd, 1) := by decide +kernel
theorem dL_law_262 : decode cL_law 262 = .ok (.iaload, 1) := by decide +kernel
theorem dL_law_263 : decode cL_law 263 = .ok (.invokevirtual 29, 3) := by decide +kernel
theorem dL_law_266 : decode cL_law 266 = .ok (.aload_n 2, 1) := by decide +kernel
theorem dL_law_267 : decode cL_law 267 = .ok (.aload_n 0, 1) := by decide +kernel
theorem dL_law_268 : decode cL_law 268 = .ok (.iload_n 3, 1) := by decide +kernel
theorem dL_law_269 : decode cL_law 269 = .ok (.iconst 1, 1) := by decide +kernel
theorem dL_law_270 : decode cL_law 270 = .ok (.iadd, 1) := by decide +kernel
theorem dL_law_271 : decode cL_law 271 = .ok (.iaload, 1) := by decide +kernel
theorem dL_law_272 : decode cL_law 272 = .ok (.invokevirtual 32, 3) := by decide +kernel
theorem dL_law_275 : decode cL_law 275 = .ok (.if_icmp .eq 887, 3) := by decide +kernel
theorem dL_law_278 : decode cL_law 278 = .ok (.iconst 0, 1) := by decide +kernel
theorem dL_law_279 : decode cL_law 279 = .ok (.ireturn, 1) := by decide +kernel
theorem dL_law_280 : decode cL_law 280 = .ok (.aload_n 1, 1) := by decide +kernel
theorem dL_law_281 : decode cL_law 281 = .ok (.aload_n 0, 1) := by decide +kernel
theorem dL_law_282 : decode cL_law 282 = .ok (.iload_n 3, 1) := by decide +kernel
theorem dL_law_283 : decode cL_law 283 = .ok (.iconst 1, 1) := by decide +kernel
theorem dL_law_284 : decode cL_law 284 = .ok (.iadd, 1) := by decide +kernel
theorem dL_law_285 : decode cL_law 285 = .ok (.iaload, 1) := by decide +kernel
theorem dL_law_286 : decode cL_law 286 = .ok (.invokevirtual 33, 3) := by decide +kernel
theorem dL_law_289 : decode cL_law 289 = .ok (.aload_n 2, 1) := by decide +kernel
theorem dL_law_290 : decode cL_law 290 = .ok (.aload_n 0, 1) := by decide +kernel
theorem dL_law_291 : decode cL_law 291 = .ok (.iload_n 3, 1) := by decide +kernel
theorem dL_law_292 : decode cL_law 292 = .ok (.iconst 1, 1) := by decide +kernel
theorem dL_law_293 : decode cL_law 293 = .ok (.iadd, 1) := by decide +kernel
theorem dL_law_294 : decode cL_law 294 = .ok (.iaload, 1) := by decide +kernel
theorem dL_law_295 : decode cL_law 295 = .ok (.invokevirtual 36, 3) := by decide +kernel
theorem dL_law_298 : decode cL_law 298 = .ok (.if_icmp .eq 864, 3) := by decide +kernel
theorem dL_law_301 : decode cL_law 301 = .ok (.iconst 0, 1) := by decide +kernel
theorem dL_law_302 : decode cL_law 302 = .ok (.ireturn, 1) := by decide +kernel
theorem dL_law_303 : decode cL_law 303 = .ok (.aload_n 1, 1) := by decide +kernel
theorem dL_law_304 : decode cL_law 304 = .ok (.aload_n 0, 1) := by decide +kernel
theorem dL_law_305 : decode cL_law 305 = .ok (.iload_n 3, 1) := by decide +kernel
theorem dL_law_306 : decode cL_law 306 = .ok (.iconst 1, 1) := by decide +kernel
theorem dL_law_307 : decode cL_law 307 = .ok (.iadd, 1) := by decide +kernel
theorem dL_law_308 : decode cL_law 308 = .ok (.iaload, 1) := by decide +kernel
theorem dL_law_309 : decode cL_law 309 = .ok (.aload_n 0, 1) := by decide +kernel
theorem dL_law_310 : decode cL_law 310 = .ok (.iload_n 3, 1) := by decide +kernel
theorem dL_law_311 : decode cL_law 311 = .ok (.iconst 2, 1) := by decide +kernel
theorem dL_law_312 : decode cL_law 312 = .ok (.iadd, 1) := by decide +kernel
theorem dL_law_313 : decode cL_law 313 = .ok (.iaload, 1) := by decide +kernel
theorem dL_law_314 : decode cL_law 314 = .ok (.aload_n 0, 1) := by decide +kernel
theorem dL_law_315 : decode cL_law 315 = .ok (.iload_n 3, 1) := by decide +kernel
theorem dL_law_316 : decode cL_law 316 = .ok (.iconst 3, 1) := by decide +kernel
theorem dL_law_317 : decode cL_law 317 = .ok (.iadd, 1) := by decide +kernel
theorem dL_law_318 : decode cL_law 318 = .ok (.iaload, 1) := by decide +kernel
theorem dL_law_319 : decode cL_law 319 = .ok (.invokevirtual 37, 3) := by decide +kernel
theorem dL_law_322 : decode cL_law 322 = .ok (.aload_n 2, 1) := by decide +kernel
theorem dL_law_323 : decode cL_law 323 = .ok (.aload_n 0, 1) := by decide +kernel
theorem dL_law_324 : decode cL_law 324 = .ok (.iload_n 3, 1) := by decide +kernel
theorem dL_law_325 : decode cL_law 325 = .ok (.iconst 1, 1) := by decide +kernel
theorem dL_law_326 : decode cL_law 326 = .ok (.iadd, 1) := by decide +kernel
theorem dL_law_327 : decode cL_law 327 = .ok (.iaload, 1) := by decide +kernel
theorem dL_law_328 : decode cL_law 328 = .ok (.aload_n 0, 1) := by decide +kernel
theorem dL_law_329 : decode cL_law 329 = .ok (.iload_n 3, 1) := by decide +kernel
theorem dL_law_330 : decode cL_law 330 = .ok (.iconst 2, 1) := by decide +kernel
theorem dL_law_331 : decode cL_law 331 = .ok (.iadd, 1) := by decide +kernel
theorem dL_law_332 : decode cL_law 332 = .ok (.iaload, 1) := by decide +kernel
theorem dL_law_333 : decode cL_law 333 = .ok (.aload_n 0, 1) := by decide +kernel
theorem dL_law_334 : decode cL_law 334 = .ok (.iload_n 3, 1) := by decide +kernel
theorem dL_law_335 : decode cL_law 335 = .ok (.iconst 3, 1) := by decide +kernel
theorem dL_law_336 : decode cL_law 336 = .ok (.iadd, 1) := by decide +kernel
theorem dL_law_337 : decode cL_law 337 = .ok (.iaload, 1) := by decide +kernel
theorem dL_law_338 : decode cL_law 338 = .ok (.invokevirtual 41, 3) := by decide +kernel
theorem dL_law_341 : decode cL_law 341 = .ok (.if_icmp .eq 821, 3) := by decide +kernel
theorem dL_law_344 : decode cL_law 344 = .ok (.iconst 0, 1) := by decide +kernel
theorem dL_law_345 : decode cL_law 345 = .ok (.ireturn, 1) := by decide +kernel
theorem dL_law_346 : decode cL_law 346 = .ok (.aload_n 1, 1) := by decide +kernel
theorem dL_law_347 : decode cL_law 347 = .ok (.aload_n 0, 1) := by decide +kernel
theorem dL_law_348 : decode cL_law 348 = .ok (.iload_n 3, 1) := by decide +kernel
theorem dL_law_349 : decode cL_law 349 = .ok (.iconst 1, 1) := by decide +kernel
theorem dL_law_350 : decode cL_law 350 = .ok (.iadd, 1) := by decide +kernel
theorem dL_law_351 : decode cL_law 351 = .ok (.iaload, 1) := by decide +kernel
theorem dL_law_352 : decode cL_law 352 = .ok (.aload_n 0, 1) := by decide +kernel
theorem dL_law_353 : decode cL_law 353 = .ok (.iload_n 3, 1) := by decide +kernel
theorem dL_law_354 : decode cL_law 354 = .ok (.iconst 2, 1) := by decide +kernel
theorem dL_law_355 : decode cL_law 355 = .ok (.iadd, 1) := by decide +kernel
theorem dL_law_356 : decode cL_law 356 = .ok (.iaload, 1) := by decide +kernel
theorem dL_law_357 : decode cL_law 357 = .ok (.aload_n 0, 1) := by decide +kernel
theorem dL_law_358 : decode cL_law 358 = .ok (.iload_n 3, 1) := by decide +kernel
theorem dL_law_359 : decode cL_law 359 = .ok (.iconst 3, 1) := by decide +kernel
theorem dL_law_360 : decode cL_law 360 = .ok (.iadd, 1) := by decide +kernel
theorem dL_law_361 : decode cL_law 361 = .ok (.iaload, 1) := by decide +kernel
theorem dL_law_362 : decode cL_law 362 = .ok (.aload_n 0, 1) := by decide +kernel
theorem dL_law_363 : decode cL_law 363 = .ok (.iload_n 3, 1) := by decide +kernel
theorem dL_law_364 : decode cL_law 364 = .ok (.iconst 4, 1) := by decide +kernel
theorem dL_law_365 : decode cL_law 365 = .ok (.iadd, 1) := by decide +kernel
theorem dL_law_366 : decode cL_law 366 = .ok (.iaload, 1) := by decide +kernel
theorem dL_law_367 : decode cL_law 367 = .ok (.aload_n 0, 1) := by decide +kernel
theorem dL_law_368 : decode cL_law 368 = .ok (.iload_n 3, 1) := by decide +kernel
theorem dL_law_369 : decode cL_law 369 = .ok (.iconst 5, 1) := by decide +kernel
theorem dL_law_370 : decode cL_law 370 = .ok (.iadd, 1) := by decide +kernel
theorem dL_law_371 : decode cL_law 371 = .ok (.iaload, 1) := by decide +kernel
theorem dL_law_372 : decode cL_law 372 = .ok (.invokevirtual 42, 3) := by decide +kernel
theorem dL_law_375 : decode cL_law 375 = .ok (.aload_n 2, 1) := by decide +kernel
theorem dL_law_376 : decode cL_law 376 = .ok (.aload_n 0, 1) := by decide +kernel
theorem dL_law_377 : decode cL_law 377 = .ok (.iload_n 3, 1) := by decide +kernel
theorem dL_law_378 : decode cL_law 378 = .ok (.iconst 1, 1) := by decide +kernel
theorem dL_law_379 : decode cL_law 379 = .ok (.iadd, 1) := by decide +kernel
theorem dL_law_380 : decode cL_law 380 = .ok (.iaload, 1) := by decide +kernel
theorem dL_law_381 : decode cL_law 381 = .ok (.aload_n 0, 1) := by decide +kernel
theorem dL_law_382 : decode cL_law 382 = .ok (.iload_n 3, 1) := by decide +kernel
theorem dL_law_383 : decode cL_law 383 = .ok (.iconst 2, 1) := by decide +kernel
theorem dL_law_384 : decode cL_law 384 = .ok (.iadd, 1) := by decide +kernel
theorem dL_law_385 : decode cL_law 385 = .ok (.iaload, 1) := by decide +kernel
theorem dL_law_386 : decode cL_law 386 = .ok (.aload_n 0, 1) := by decide +kernel
theorem dL_law_387 : decode cL_law 387 = .ok (.iload_n 3, 1) := by decide +kernel
theorem dL_law_388 : decode cL_law 388 = .ok (.iconst 3, 1) := by decide +kernel
theorem dL_law_389 : decode cL_law 389 = .ok (.iadd, 1) := by decide +kernel
theorem dL_law_390 : decode cL_law 390 = .ok (.iaload, 1) := by decide +kernel
theorem dL_law_391 : decode cL_law 391 = .ok (.aload_n 0, 1) := by decide +kernel
theorem dL_law_392 : decode cL_law 392 = .ok (.iload_n 3, 1) := by decide +kernel
theorem dL_law_393 : decode cL_law 393 = .ok (.iconst 4, 1) := by decide +kernel
theorem dL_law_394 : decode cL_law 394 = .ok (.iadd, 1) := by decide +kernel
theorem dL_law_395 : decode cL_law 395 = .ok (.iaload, 1) := by decide +kernel
theorem dL_law_396 : decode cL_law 396 = .ok (.aload_n 0, 1) := by decide +kernel
theorem dL_law_397 : decode cL_law 397 = .ok (.iload_n 3, 1) := by decide +kernel
theorem dL_law_398 : decode cL_law 398 = .ok (.iconst 5, 1) := by decide +kernel
theorem dL_law_399 : decode cL_law 399 = .ok (.iadd, 1) := by decide +kernel
theorem dL_law_400 : decode cL_law 400 = .ok (.iaload, 1) := by decide +kernel
theorem dL_law_401 : decode cL_law 401 = .ok (.invokevirtual 46, 3) := by decide +kernel
theorem dL_law_404 : decode cL_law 404 = .ok (.lcmp, 1) := by decide +kernel
theorem dL_law_405 : decode cL_law 405 = .ok (.ifCond .eq 757, 3) := by decide +kernel
theorem dL_law_408 : decode cL_law 408 = .ok (.iconst 0, 1) := by decide +kernel
theorem dL_law_409 : decode cL_law 409 = .ok (.ireturn, 1) := by decide +kernel
theorem dL_law_410 : decode cL_law 410 = .ok (.aload_n 1, 1) := by decide +kernel
theorem dL_law_411 : decode cL_law 411 = .ok (.aload_n 0, 1) := by decide +kernel
theorem dL_law_412 : decode cL_law 412 = .ok (.iload_n 3, 1) := by decide +kernel
theorem dL_law_413 : decode cL_law 413 = .ok (.iconst 1, 1) := by decide +kernel
theorem dL_law_414 : decode cL_law 414 = .ok (.iadd, 1) := by decide +kernel
theorem dL_law_415 : decode cL_law 415 = .ok (.iaload, 1) := by decide +kernel
theorem dL_law_416 : decode cL_law 416 = .ok (.aload_n 0, 1) := by decide +kernel
theorem dL_law_417 : decode cL_law 417 = .ok (.iload_n 3, 1) := by decide +kernel
theorem dL_law_418 : decode cL_law 418 = .ok (.iconst 2, 1) := by decide +kernel
theorem dL_law_419 : decode cL_law 419 = .ok (.iadd, 1) := by decide +kernel
theorem dL_law_420 : decode cL_law 420 = .ok (.iaload, 1) := by decide +kernel
theorem dL_law_421 : decode cL_law 421 = .ok (.invokevirtual 47, 3) := by decide +kernel
theorem dL_law_424 : decode cL_law 424 = .ok (.aload_n 2, 1) := by decide +kernel
theorem dL_law_425 : decode cL_law 425 = .ok (.aload_n 0, 1) := by decide +kernel
theorem dL_law_426 : decode cL_law 426 = .ok (.iload_n 3, 1) := by decide +kernel
theorem dL_law_427 : decode cL_law 427 = .ok (.iconst 1, 1) := by decide +kernel
theorem dL_law_428 : decode cL_law 428 = .ok (.iadd, 1) := by decide +kernel
theorem dL_law_429 : decode cL_law 429 = .ok (.iaload, 1) := by decide +kernel
theorem dL_law_430 : decode cL_law 430 = .ok (.aload_n 0, 1) := by decide +kernel
theorem dL_law_431 : decode cL_law 431 = .ok (.iload_n 3, 1) := by decide +kernel
theorem dL_law_432 : decode cL_law 432 = .ok (.iconst 2, 1) := by decide +kernel
theorem dL_law_433 : decode cL_law 433 = .ok (.iadd, 1) := by decide +kernel
theorem dL_law_434 : decode cL_law 434 = .ok (.iaload, 1) := by decide +kernel
theorem dL_law_435 : decode cL_law 435 = .ok (.invokevirtual 51, 3) := by decide +kernel
theorem dL_law_438 : decode cL_law 438 = .ok (.if_icmp .eq 724, 3) := by decide +kernel
theorem dL_law_441 : decode cL_law 441 = .ok (.iconst 0, 1) := by decide +kernel
theorem dL_law_442 : decode cL_law 442 = .ok (.ireturn, 1) := by decide +kernel
theorem dL_law_443 : decode cL_law 443 = .ok (.aload_n 1, 1) := by decide +kernel
theorem dL_law_444 : decode cL_law 444 = .ok (.aload_n 0, 1) := by decide +kernel
theorem dL_law_445 : decode cL_law 445 = .ok (.iload_n 3, 1) := by decide +kernel
theorem dL_law_446 : decode cL_law 446 = .ok (.iconst 1, 1) := by decide +kernel
theorem dL_law_447 : decode cL_law 447 = .ok (.iadd, 1) := by decide +kernel
theorem dL_law_448 : decode cL_law 448 = .ok (.iaload, 1) := by decide +kernel
theorem dL_law_449 : decode cL_law 449 = .ok (.aload_n 0, 1) := by decide +kernel
theorem dL_law_450 : decode cL_law 450 = .ok (.iload_n 3, 1) := by decide +kernel
theorem dL_law_451 : decode cL_law 451 = .ok (.iconst 2, 1) := by decide +kernel
theorem dL_law_452 : decode cL_law 452 = .ok (.iadd, 1) := by decide +kernel
theorem dL_law_453 : decode cL_law 453 = .ok (.iaload, 1) := by decide +kernel
theorem dL_law_454 : decode cL_law 454 = .ok (.invokevirtual 52, 3) := by decide +kernel
theorem dL_law_457 : decode cL_law 457 = .ok (.aload_n 2, 1) := by decide +kernel
theorem dL_law_458 : decode cL_law 458 = .ok (.aload_n 0, 1) := by decide +kernel
theorem dL_law_459 : decode cL_law 459 = .ok (.iload_n 3, 1) := by decide +kernel
theorem dL_law_460 : decode cL_law 460 = .ok (.iconst 1, 1) := by decide +kernel
theorem dL_law_461 : decode cL_law 461 = .ok (.iadd, 1) := by decide +kernel
theorem dL_law_462 : decode cL_law 462 = .ok (.iaload, 1) := by decide +kernel
theorem dL_law_463 : decode cL_law 463 = .ok (.aload_n 0, 1) := by decide +kernel
theorem dL_law_464 : decode cL_law 464 = .ok (.iload_n 3, 1) := by decide +kernel
theorem dL_law_465 : decode cL_law 465 = .ok (.iconst 2, 1) := by decide +kernel
theorem dL_law_466 : decode cL_law 466 = .ok (.iadd, 1) := by decide +kernel
theorem dL_law_467 : decode cL_law 467 = .ok (.iaload, 1) := by decide +kernel
theorem dL_law_468 : decode cL_law 468 = .ok (.invokevirtual 56, 3) := by decide +kernel
theorem dL_law_471 : decode cL_law 471 = .ok (.lcmp, 1) := by decide +kernel
theorem dL_law_472 : decode cL_law 472 = .ok (.ifCond .eq 690, 3) := by decide +kernel
theorem dL_law_475 : decode cL_law 475 = .ok (.iconst 0, 1) := by decide +kernel
theorem dL_law_476 : decode cL_law 476 = .ok (.ireturn, 1) := by decide +kernel
theorem dL_law_477 : decode cL_law 477 = .ok (.aload_n 1, 1) := by decide +kernel
theorem dL_law_478 : decode cL_law 478 = .ok (.aload_n 0, 1) := by decide +kernel
theorem dL_law_479 : decode cL_law 479 = .ok (.iload_n 3, 1) := by decide +kernel
theorem dL_law_480 : decode cL_law 480 = .ok (.iconst 1, 1) := by decide +kernel
theorem dL_law_481 : decode cL_law 481 = .ok (.iadd, 1) := by decide +kernel
theorem dL_law_482 : decode cL_law 482 = .ok (.iaload, 1) := by decide +kernel
theorem dL_law_483 : decode cL_law 483 = .ok (.invokevirtual 57, 3) := by decide +kernel
theorem dL_law_486 : decode cL_law 486 = .ok (.aload_n 2, 1) := by decide +kernel
theorem dL_law_487 : decode cL_law 487 = .ok (.aload_n 0, 1) := by decide +kernel
theorem dL_law_488 : decode cL_law 488 = .ok (.iload_n 3, 1) := by decide +kernel
theorem dL_law_489 : decode cL_law 489 = .ok (.iconst 1, 1) := by decide +kernel
theorem dL_law_490 : decode cL_law 490 = .ok (.iadd, 1) := by decide +kernel
theorem dL_law_491 : decode cL_law 491 = .ok (.iaload, 1) := by decide +kernel
theorem dL_law_492 : decode cL_law 492 = .ok (.invokevirtual 60, 3) := by decide +kernel
theorem dL_law_495 : decode cL_law 495 = .ok (.if_icmp .eq 667, 3) := by decide +kernel
theorem dL_law_498 : decode cL_law 498 = .ok (.iconst 0, 1) := by decide +kernel
theorem dL_law_499 : decode cL_law 499 = .ok (.ireturn, 1) := by decide +kernel
theorem dL_law_500 : decode cL_law 500 = .ok (.aload_n 1, 1) := by decide +kernel
theorem dL_law_501 : decode cL_law 501 = .ok (.aload_n 0, 1) := by decide +kernel
theorem dL_law_502 : decode cL_law 502 = .ok (.iload_n 3, 1) := by decide +kernel
theorem dL_law_503 : decode cL_law 503 = .ok (.iconst 1, 1) := by decide +kernel
theorem dL_law_504 : decode cL_law 504 = .ok (.iadd, 1) := by decide +kernel
theorem dL_law_505 : decode cL_law 505 = .ok (.iaload, 1) := by decide +kernel
theorem dL_law_506 : decode cL_law 506 = .ok (.invokevirtual 61, 3) := by decide +kernel
theorem dL_law_509 : decode cL_law 509 = .ok (.aload_n 2, 1) := by decide +kernel
theorem dL_law_510 : decode cL_law 510 = .ok (.aload_n 0, 1) := by decide +kernel
theorem dL_law_511 : decode cL_law 511 = .ok (.iload_n 3, 1) := by decide +kernel
theorem dL_law_512 : decode cL_law 512 = .ok (.iconst 1, 1) := by decide +kernel
theorem dL_law_513 : decode cL_law 513 = .ok (.iadd, 1) := by decide +kernel
theorem dL_law_514 : decode cL_law 514 = .ok (.iaload, 1) := by decide +kernel
theorem dL_law_515 : decode cL_law 515 = .ok (.invokevirtual 64, 3) := by decide +kernel
theorem dL_law_518 : decode cL_law 518 = .ok (.if_icmp .eq 644, 3) := by decide +kernel
theorem dL_law_521 : decode cL_law 521 = .ok (.iconst 0, 1) := by decide +kernel
theorem dL_law_522 : decode cL_law 522 = .ok (.ireturn, 1) := by decide +kernel
theorem dL_law_523 : decode cL_law 523 = .ok (.aload_n 1, 1) := by decide +kernel
theorem dL_law_524 : decode cL_law 524 = .ok (.aload_n 0, 1) := by decide +kernel
theorem dL_law_525 : decode cL_law 525 = .ok (.iload_n 3, 1) := by decide +kernel
theorem dL_law_526 : decode cL_law 526 = .ok (.iconst 1, 1) := by decide +kernel
theorem dL_law_527 : decode cL_law 527 = .ok (.iadd, 1) := by decide +kernel
theorem dL_law_528 : decode cL_law 528 = .ok (.iaload, 1) := by decide +kernel
theorem dL_law_529 : decode cL_law 529 = .ok (.aload_n 0, 1) := by decide +kernel
theorem dL_law_530 : decode cL_law 530 = .ok (.iload_n 3, 1) := by decide +kernel
theorem dL_law_531 : decode cL_law 531 = .ok (.iconst 2, 1) := by decide +kernel
theorem dL_law_532 : decode cL_law 532 = .ok (.iadd, 1) := by decide +kernel
theorem dL_law_533 : decode cL_law 533 = .ok (.iaload, 1) := by decide +kernel
theorem dL_law_534 : decode cL_law 534 = .ok (.aload_n 0, 1) := by decide +kernel
theorem dL_law_535 : decode cL_law 535 = .ok (.iload_n 3, 1) := by decide +kernel
theorem dL_law_536 : decode cL_law 536 = .ok (.iconst 3, 1) := by decide +kernel
theorem dL_law_537 : decode cL_law 537 = .ok (.iadd, 1) := by decide +kernel
theorem dL_law_538 : decode cL_law 538 = .ok (.iaload, 1) := by decide +kernel
theorem dL_law_539 : decode cL_law 539 = .ok (.aload_n 0, 1) := by decide +kernel
theorem dL_law_540 : decode cL_law 540 = .ok (.iload_n 3, 1) := by decide +kernel
theorem dL_law_541 : decode cL_law 541 = .ok (.iconst 4, 1) := by decide +kernel
theorem dL_law_542 : decode cL_law 542 = .ok (.iadd, 1) := by decide +kernel
theorem dL_law_543 : decode cL_law 543 = .ok (.iaload, 1) := by decide +kernel
theorem dL_law_544 : decode cL_law 544 = .ok (.invokevirtual 65, 3) := by decide +kernel
theorem dL_law_547 : decode cL_law 547 = .ok (.aload_n 2, 1) := by decide +kernel
theorem dL_law_548 : decode cL_law 548 = .ok (.aload_n 0, 1) := by decide +kernel
theorem dL_law_549 : decode cL_law 549 = .ok (.iload_n 3, 1) := by decide +kernel
theorem dL_law_550 : decode cL_law 550 = .ok (.iconst 1, 1) := by decide +kernel
theorem dL_law_551 : decode cL_law 551 = .ok (.iadd, 1) := by decide +kernel
theorem dL_law_552 : decode cL_law 552 = .ok (.iaload, 1) := by decide +kernel
theorem dL_law_553 : decode cL_law 553 = .ok (.aload_n 0, 1) := by decide +kernel
theorem dL_law_554 : decode cL_law 554 = .ok (.iload_n 3, 1) := by decide +kernel
theorem dL_law_555 : decode cL_law 555 = .ok (.iconst 2, 1) := by decide +kernel
theorem dL_law_556 : decode cL_law 556 = .ok (.iadd, 1) := by decide +kernel
theorem dL_law_557 : decode cL_law 557 = .ok (.iaload, 1) := by decide +kernel
theorem dL_law_558 : decode cL_law 558 = .ok (.aload_n 0, 1) := by decide +kernel
theorem dL_law_559 : decode cL_law 559 = .ok (.iload_n 3, 1) := by decide +kernel
theorem dL_law_560 : decode cL_law 560 = .ok (.iconst 3, 1) := by decide +kernel
theorem dL_law_561 : decode cL_law 561 = .ok (.iadd, 1) := by decide +kernel
theorem dL_law_562 : decode cL_law 562 = .ok (.iaload, 1) := by decide +kernel
theorem dL_law_563 : decode cL_law 563 = .ok (.aload_n 0, 1) := by decide +kernel
theorem dL_law_564 : decode cL_law 564 = .ok (.iload_n 3, 1) := by decide +kernel
theorem dL_law_565 : decode cL_law 565 = .ok (.iconst 4, 1) := by decide +kernel
theorem dL_law_566 : decode cL_law 566 = .ok (.iadd, 1) := by decide +kernel
theorem dL_law_567 : decode cL_law 567 = .ok (.iaload, 1) := by decide +kernel
theorem dL_law_568 : decode cL_law 568 = .ok (.invokevirtual 69, 3) := by decide +kernel
theorem dL_law_571 : decode cL_law 571 = .ok (.if_icmp .eq 591, 3) := by decide +kernel
theorem dL_law_574 : decode cL_law 574 = .ok (.iconst 0, 1) := by decide +kernel
theorem dL_law_575 : decode cL_law 575 = .ok (.ireturn, 1) := by decide +kernel
theorem dL_law_576 : decode cL_law 576 = .ok (.aload_n 1, 1) := by decide +kernel
theorem dL_law_577 : decode cL_law 577 = .ok (.aload_n 0, 1) := by decide +kernel
theorem dL_law_578 : decode cL_law 578 = .ok (.iload_n 3, 1) := by decide +kernel
theorem dL_law_579 : decode cL_law 579 = .ok (.iconst 1, 1) := by decide +kernel
theorem dL_law_580 : decode cL_law 580 = .ok (.iadd, 1) := by decide +kernel
theorem dL_law_581 : decode cL_law 581 = .ok (.iaload, 1) := by decide +kernel
theorem dL_law_582 : decode cL_law 582 = .ok (.aload_n 0, 1) := by decide +kernel
theorem dL_law_583 : decode cL_law 583 = .ok (.iload_n 3, 1) := by decide +kernel
theorem dL_law_584 : decode cL_law 584 = .ok (.iconst 2, 1) := by decide +kernel
theorem dL_law_585 : decode cL_law 585 = .ok (.iadd, 1) := by decide +kernel
theorem dL_law_586 : decode cL_law 586 = .ok (.iaload, 1) := by decide +kernel
theorem dL_law_587 : decode cL_law 587 = .ok (.invokevirtual 70, 3) := by decide +kernel
theorem dL_law_590 : decode cL_law 590 = .ok (.aload_n 2, 1) := by decide +kernel
theorem dL_law_591 : decode cL_law 591 = .ok (.aload_n 0, 1) := by decide +kernel
theorem dL_law_592 : decode cL_law 592 = .ok (.iload_n 3, 1) := by decide +kernel
theorem dL_law_593 : decode cL_law 593 = .ok (.iconst 1, 1) := by decide +kernel
theorem dL_law_594 : decode cL_law 594 = .ok (.iadd, 1) := by decide +kernel
theorem dL_law_595 : decode cL_law 595 = .ok (.iaload, 1) := by decide +kernel
theorem dL_law_596 : decode cL_law 596 = .ok (.aload_n 0, 1) := by decide +kernel
theorem dL_law_597 : decode cL_law 597 = .ok (.iload_n 3, 1) := by decide +kernel
theorem dL_law_598 : decode cL_law 598 = .ok (.iconst 2, 1) := by decide +kernel
theorem dL_law_599 : decode cL_law 599 = .ok (.iadd, 1) := by decide +kernel
theorem dL_law_600 : decode cL_law 600 = .ok (.iaload, 1) := by decide +kernel
theorem dL_law_601 : decode cL_law 601 = .ok (.invokevirtual 73, 3) := by decide +kernel
theorem dL_law_604 : decode cL_law 604 = .ok (.lcmp, 1) := by decide +kernel
theorem dL_law_605 : decode cL_law 605 = .ok (.ifCond .eq 557, 3) := by decide +kernel
theorem dL_law_608 : decode cL_law 608 = .ok (.iconst 0, 1) := by decide +kernel
theorem dL_law_609 : decode cL_law 609 = .ok (.ireturn, 1) := by decide +kernel
theorem dL_law_610 : decode cL_law 610 = .ok (.aload_n 1, 1) := by decide +kernel
theorem dL_law_611 : decode cL_law 611 = .ok (.aload_n 0, 1) := by decide +kernel
theorem dL_law_612 : decode cL_law 612 = .ok (.iload_n 3, 1) := by decide +kernel
theorem dL_law_613 : decode cL_law 613 = .ok (.iconst 1, 1) := by decide +kernel
theorem dL_law_614 : decode cL_law 614 = .ok (.iadd, 1) := by decide +kernel
theorem dL_law_615 : decode cL_law 615 = .ok (.iaload, 1) := by decide +kernel
theorem dL_law_616 : decode cL_law 616 = .ok (.aload_n 0, 1) := by decide +kernel
theorem dL_law_617 : decode cL_law 617 = .ok (.iload_n 3, 1) := by decide +kernel
theorem dL_law_618 : decode cL_law 618 = .ok (.iconst 2, 1) := by decide +kernel
theorem dL_law_619 : decode cL_law 619 = .ok (.iadd, 1) := by decide +kernel
theorem dL_law_620 : decode cL_law 620 = .ok (.iaload, 1) := by decide +kernel
theorem dL_law_621 : decode cL_law 621 = .ok (.invokevirtual 74, 3) := by decide +kernel
theorem dL_law_624 : decode cL_law 624 = .ok (.aload_n 2, 1) := by decide +kernel
theorem dL_law_625 : decode cL_law 625 = .ok (.aload_n 0, 1) := by decide +kernel
theorem dL_law_626 : decode cL_law 626 = .ok (.iload_n 3, 1) := by decide +kernel
theorem dL_law_627 : decode cL_law 627 = .ok (.iconst 1, 1) := by decide +kernel
theorem dL_law_628 : decode cL_law 628 = .ok (.iadd, 1) := by decide +kernel
theorem dL_law_629 : decode cL_law 629 = .ok (.iaload, 1) := by decide +kernel
theorem dL_law_630 : decode cL_law 630 = .ok (.aload_n 0, 1) := by decide +kernel
theorem dL_law_631 : decode cL_law 631 = .ok (.iload_n 3, 1) := by decide +kernel
theorem dL_law_632 : decode cL_law 632 = .ok (.iconst 2, 1) := by decide +kernel
theorem dL_law_633 : decode cL_law 633 = .ok (.iadd, 1) := by decide +kernel
theorem dL_law_634 : decode cL_law 634 = .ok (.iaload, 1) := by decide +kernel
theorem dL_law_635 : decode cL_law 635 = .ok (.invokevirtual 77, 3) := by decide +kernel
theorem dL_law_638 : decode cL_law 638 = .ok (.lcmp, 1) := by decide +kernel
theorem dL_law_639 : decode cL_law 639 = .ok (.ifCond .eq 523, 3) := by decide +kernel
theorem dL_law_642 : decode cL_law 642 = .ok (.iconst 0, 1) := by decide +kernel
theorem dL_law_643 : decode cL_law 643 = .ok (.ireturn, 1) := by decide +kernel
theorem dL_law_644 : decode cL_law 644 = .ok (.aload_n 1, 1) := by decide +kernel
theorem dL_law_645 : decode cL_law 645 = .ok (.aload_n 0, 1) := by decide +kernel
theorem dL_law_646 : decode cL_law 646 = .ok (.iload_n 3, 1) := by decide +kernel
theorem dL_law_647 : decode cL_law 647 = .ok (.iconst 1, 1) := by decide +kernel
theorem dL_law_648 : decode cL_law 648 = .ok (.iadd, 1) := by decide +kernel
theorem dL_law_649 : decode cL_law 649 = .ok (.iaload, 1) := by decide +kernel
theorem dL_law_650 : decode cL_law 650 = .ok (.invokevirtual 78, 3) := by decide +kernel
theorem dL_law_653 : decode cL_law 653 = .ok (.aload_n 2, 1) := by decide +kernel
theorem dL_law_654 : decode cL_law 654 = .ok (.aload_n 0, 1) := by decide +kernel
theorem dL_law_655 : decode cL_law 655 = .ok (.iload_n 3, 1) := by decide +kernel
theorem dL_law_656 : decode cL_law 656 = .ok (.iconst 1, 1) := by decide +kernel
theorem dL_law_657 : decode cL_law 657 = .ok (.iadd, 1) := by decide +kernel
theorem dL_law_658 : decode cL_law 658 = .ok (.iaload, 1) := by decide +kernel
theorem dL_law_659 : decode cL_law 659 = .ok (.invokevirtual 81, 3) := by decide +kernel
theorem dL_law_662 : decode cL_law 662 = .ok (.if_icmp .eq 500, 3) := by decide +kernel
theorem dL_law_665 : decode cL_law 665 = .ok (.iconst 0, 1) := by decide +kernel
theorem dL_law_666 : decode cL_law 666 = .ok (.ireturn, 1) := by decide +kernel
theorem dL_law_667 : decode cL_law 667 = .ok (.aload_n 1, 1) := by decide +kernel
theorem dL_law_668 : decode cL_law 668 = .ok (.aload_n 0, 1) := by decide +kernel
theorem dL_law_669 : decode cL_law 669 = .ok (.iload_n 3, 1) := by decide +kernel
theorem dL_law_670 : decode cL_law 670 = .ok (.iconst 1, 1) := by decide +kernel
theorem dL_law_671 : decode cL_law 671 = .ok (.iadd, 1) := by decide +kernel
theorem dL_law_672 : decode cL_law 672 = .ok (.iaload, 1) := by decide +kernel
theorem dL_law_673 : decode cL_law 673 = .ok (.aload_n 0, 1) := by decide +kernel
theorem dL_law_674 : decode cL_law 674 = .ok (.iload_n 3, 1) := by decide +kernel
theorem dL_law_675 : decode cL_law 675 = .ok (.iconst 2, 1) := by decide +kernel
theorem dL_law_676 : decode cL_law 676 = .ok (.iadd, 1) := by decide +kernel
theorem dL_law_677 : decode cL_law 677 = .ok (.iaload, 1) := by decide +kernel
theorem dL_law_678 : decode cL_law 678 = .ok (.aload_n 0, 1) := by decide +kernel
theorem dL_law_679 : decode cL_law 679 = .ok (.iload_n 3, 1) := by decide +kernel
theorem dL_law_680 : decode cL_law 680 = .ok (.iconst 3, 1) := by decide +kernel
theorem dL_law_681 : decode cL_law 681 = .ok (.iadd, 1) := by decide +kernel
theorem dL_law_682 : decode cL_law 682 = .ok (.iaload, 1) := by decide +kernel
theorem dL_law_683 : decode cL_law 683 = .ok (.aload_n 0, 1) := by decide +kernel
theorem dL_law_684 : decode cL_law 684 = .ok (.iload_n 3, 1) := by decide +kernel
theorem dL_law_685 : decode cL_law 685 = .ok (.iconst 4, 1) := by decide +kernel
theorem dL_law_686 : decode cL_law 686 = .ok (.iadd, 1) := by decide +kernel
theorem dL_law_687 : decode cL_law 687 = .ok (.iaload, 1) := by decide +kernel
theorem dL_law_688 : decode cL_law 688 = .ok (.invokevirtual 82, 3) := by decide +kernel
theorem dL_law_691 : decode cL_law 691 = .ok (.aload_n 2, 1) := by decide +kernel
theorem dL_law_692 : decode cL_law 692 = .ok (.aload_n 0, 1) := by decide +kernel
theorem dL_law_693 : decode cL_law 693 = .ok (.iload_n 3, 1) := by decide +kernel
theorem dL_law_694 : decode cL_law 694 = .ok (.iconst 1, 1) := by decide +kernel
theorem dL_law_695 : decode cL_law 695 = .ok (.iadd, 1) := by decide +kernel
theorem dL_law_696 : decode cL_law 696 = .ok (.iaload, 1) := by decide +kernel
theorem dL_law_697 : decode cL_law 697 = .ok (.aload_n 0, 1) := by decide +kernel
theorem dL_law_698 : decode cL_law 698 = .ok (.iload_n 3, 1) := by decide +kernel
theorem dL_law_699 : decode cL_law 699 = .ok (.iconst 2, 1) := by decide +kernel
theorem dL_law_700 : decode cL_law 700 = .ok (.iadd, 1) := by decide +kernel
theorem dL_law_701 : decode cL_law 701 = .ok (.iaload, 1) := by decide +kernel
theorem dL_law_702 : decode cL_law 702 = .ok (.aload_n 0, 1) := by decide +kernel
theorem dL_law_703 : decode cL_law 703 = .ok (.iload_n 3, 1) := by decide +kernel
theorem dL_law_704 : decode cL_law 704 = .ok (.iconst 3, 1) := by decide +kernel
theorem dL_law_705 : decode cL_law 705 = .ok (.iadd, 1) := by decide +kernel
theorem dL_law_706 : decode cL_law 706 = .ok (.iaload, 1) := by decide +kernel
theorem dL_law_707 : decode cL_law 707 = .ok (.aload_n 0, 1) := by decide +kernel
theorem dL_law_708 : decode cL_law 708 = .ok (.iload_n 3, 1) := by decide +kernel
theorem dL_law_709 : decode cL_law 709 = .ok (.iconst 4, 1) := by decide +kernel
theorem dL_law_710 : decode cL_law 710 = .ok (.iadd, 1) := by decide +kernel
theorem dL_law_711 : decode cL_law 711 = .ok (.iaload, 1) := by decide +kernel
theorem dL_law_712 : decode cL_law 712 = .ok (.invokevirtual 85, 3) := by decide +kernel
theorem dL_law_715 : decode cL_law 715 = .ok (.if_icmp .eq 447, 3) := by decide +kernel
theorem dL_law_718 : decode cL_law 718 = .ok (.iconst 0, 1) := by decide +kernel
theorem dL_law_719 : decode cL_law 719 = .ok (.ireturn, 1) := by decide +kernel
theorem dL_law_720 : decode cL_law 720 = .ok (.aload_n 1, 1) := by decide +kernel
theorem dL_law_721 : decode cL_law 721 = .ok (.aload_n 0, 1) := by decide +kernel
theorem dL_law_722 : decode cL_law 722 = .ok (.iload_n 3, 1) := by decide +kernel
theorem dL_law_723 : decode cL_law 723 = .ok (.iconst 1, 1) := by decide +kernel
theorem dL_law_724 : decode cL_law 724 = .ok (.iadd, 1) := by decide +kernel
theorem dL_law_725 : decode cL_law 725 = .ok (.iaload, 1) := by decide +kernel
theorem dL_law_726 : decode cL_law 726 = .ok (.aload_n 0, 1) := by decide +kernel
theorem dL_law_727 : decode cL_law 727 = .ok (.iload_n 3, 1) := by decide +kernel
theorem dL_law_728 : decode cL_law 728 = .ok (.iconst 2, 1) := by decide +kernel
theorem dL_law_729 : decode cL_law 729 = .ok (.iadd, 1) := by decide +kernel
theorem dL_law_730 : decode cL_law 730 = .ok (.iaload, 1) := by decide +kernel
theorem dL_law_731 : decode cL_law 731 = .ok (.aload_n 0, 1) := by decide +kernel
theorem dL_law_732 : decode cL_law 732 = .ok (.iload_n 3, 1) := by decide +kernel
theorem dL_law_733 : decode cL_law 733 = .ok (.iconst 3, 1) := by decide +kernel
theorem dL_law_734 : decode cL_law 734 = .ok (.iadd, 1) := by decide +kernel
theorem dL_law_735 : decode cL_law 735 = .ok (.iaload, 1) := by decide +kernel
theorem dL_law_736 : decode cL_law 736 = .ok (.aload_n 0, 1) := by decide +kernel
theorem dL_law_737 : decode cL_law 737 = .ok (.iload_n 3, 1) := by decide +kernel
theorem dL_law_738 : decode cL_law 738 = .ok (.iconst 4, 1) := by decide +kernel
theorem dL_law_739 : decode cL_law 739 = .ok (.iadd, 1) := by decide +kernel
theorem dL_law_740 : decode cL_law 740 = .ok (.iaload, 1) := by decide +kernel
theorem dL_law_741 : decode cL_law 741 = .ok (.invokevirtual 86, 3) := by decide +kernel
theorem dL_law_744 : decode cL_law 744 = .ok (.aload_n 2, 1) := by decide +kernel
theorem dL_law_745 : decode cL_law 745 = .ok (.aload_n 0, 1) := by decide +kernel
theorem dL_law_746 : decode cL_law 746 = .ok (.iload_n 3, 1) := by decide +kernel
theorem dL_law_747 : decode cL_law 747 = .ok (.iconst 1, 1) := by decide +kernel
theorem dL_law_748 : decode cL_law 748 = .ok (.iadd, 1) := by decide +kernel
theorem dL_law_749 : decode cL_law 749 = .ok (.iaload, 1) := by decide +kernel
theorem dL_law_750 : decode cL_law 750 = .ok (.aload_n 0, 1) := by decide +kernel
theorem dL_law_751 : decode cL_law 751 = .ok (.iload_n 3, 1) := by decide +kernel
theorem dL_law_752 : decode cL_law 752 = .ok (.iconst 2, 1) := by decide +kernel
theorem dL_law_753 : decode cL_law 753 = .ok (.iadd, 1) := by decide +kernel
theorem dL_law_754 : decode cL_law 754 = .ok (.iaload, 1) := by decide +kernel
theorem dL_law_755 : decode cL_law 755 = .ok (.aload_n 0, 1) := by decide +kernel
theorem dL_law_756 : decode cL_law 756 = .ok (.iload_n 3, 1) := by decide +kernel
theorem dL_law_757 : decode cL_law 757 = .ok (.iconst 3, 1) := by decide +kernel
theorem dL_law_758 : decode cL_law 758 = .ok (.iadd, 1) := by decide +kernel
theorem dL_law_759 : decode cL_law 759 = .ok (.iaload, 1) := by decide +kernel
theorem dL_law_760 : decode cL_law 760 = .ok (.aload_n 0, 1) := by decide +kernel
theorem dL_law_761 : decode cL_law 761 = .ok (.iload_n 3, 1) := by decide +kernel
theorem dL_law_762 : decode cL_law 762 = .ok (.iconst 4, 1) := by decide +kernel
theorem dL_law_763 : decode cL_law 763 = .ok (.iadd, 1) := by decide +kernel
theorem dL_law_764 : decode cL_law 764 = .ok (.iaload, 1) := by decide +kernel
theorem dL_law_765 : decode cL_law 765 = .ok (.invokevirtual 90, 3) := by decide +kernel
theorem dL_law_768 : decode cL_law 768 = .ok (.lcmp, 1) := by decide +kernel
theorem dL_law_769 : decode cL_law 769 = .ok (.ifCond .eq 393, 3) := by decide +kernel
theorem dL_law_772 : decode cL_law 772 = .ok (.iconst 0, 1) := by decide +kernel
theorem dL_law_773 : decode cL_law 773 = .ok (.ireturn, 1) := by decide +kernel
theorem dL_law_774 : decode cL_law 774 = .ok (.aload_n 1, 1) := by decide +kernel
theorem dL_law_775 : decode cL_law 775 = .ok (.aload_n 0, 1) := by decide +kernel
theorem dL_law_776 : decode cL_law 776 = .ok (.iload_n 3, 1) := by decide +kernel
theorem dL_law_777 : decode cL_law 777 = .ok (.iconst 1, 1) := by decide +kernel
theorem dL_law_778 : decode cL_law 778 = .ok (.iadd, 1) := by decide +kernel
theorem dL_law_779 : decode cL_law 779 = .ok (.iaload, 1) := by decide +kernel
theorem dL_law_780 : decode cL_law 780 = .ok (.aload_n 0, 1) := by decide +kernel
theorem dL_law_781 : decode cL_law 781 = .ok (.iload_n 3, 1) := by decide +kernel
theorem dL_law_782 : decode cL_law 782 = .ok (.iconst 2, 1) := by decide +kernel
theorem dL_law_783 : decode cL_law 783 = .ok (.iadd, 1) := by decide +kernel
theorem dL_law_784 : decode cL_law 784 = .ok (.iaload, 1) := by decide +kernel
theorem dL_law_785 : decode cL_law 785 = .ok (.invokevirtual 91, 3) := by decide +kernel
theorem dL_law_788 : decode cL_law 788 = .ok (.aload_n 2, 1) := by decide +kernel
theorem dL_law_789 : decode cL_law 789 = .ok (.aload_n 0, 1) := by decide +kernel
theorem dL_law_790 : decode cL_law 790 = .ok (.iload_n 3, 1) := by decide +kernel
theorem dL_law_791 : decode cL_law 791 = .ok (.iconst 1, 1) := by decide +kernel
theorem dL_law_792 : decode cL_law 792 = .ok (.iadd, 1) := by decide +kernel
theorem dL_law_793 : decode cL_law 793 = .ok (.iaload, 1) := by decide +kernel
theorem dL_law_794 : decode cL_law 794 = .ok (.aload_n 0, 1) := by decide +kernel
theorem dL_law_795 : decode cL_law 795 = .ok (.iload_n 3, 1) := by decide +kernel
theorem dL_law_796 : decode cL_law 796 = .ok (.iconst 2, 1) := by decide +kernel
theorem dL_law_797 : decode cL_law 797 = .ok (.iadd, 1) := by decide +kernel
theorem dL_law_798 : decode cL_law 798 = .ok (.iaload, 1) := by decide +kernel
theorem dL_law_799 : decode cL_law 799 = .ok (.invokevirtual 94, 3) := by decide +kernel
theorem dL_law_802 : decode cL_law 802 = .ok (.if_icmp .eq 360, 3) := by decide +kernel
theorem dL_law_805 : decode cL_law 805 = .ok (.iconst 0, 1) := by decide +kernel
theorem dL_law_806 : decode cL_law 806 = .ok (.ireturn, 1) := by decide +kernel
theorem dL_law_807 : decode cL_law 807 = .ok (.aload_n 1, 1) := by decide +kernel
theorem dL_law_808 : decode cL_law 808 = .ok (.aload_n 0, 1) := by decide +kernel
theorem dL_law_809 : decode cL_law 809 = .ok (.iload_n 3, 1) := by decide +kernel
theorem dL_law_810 : decode cL_law 810 = .ok (.iconst 1, 1) := by decide +kernel
theorem dL_law_811 : decode cL_law 811 = .ok (.iadd, 1) := by decide +kernel
theorem dL_law_812 : decode cL_law 812 = .ok (.iaload, 1) := by decide +kernel
theorem dL_law_813 : decode cL_law 813 = .ok (.aload_n 0, 1) := by decide +kernel
theorem dL_law_814 : decode cL_law 814 = .ok (.iload_n 3, 1) := by decide +kernel
theorem dL_law_815 : decode cL_law 815 = .ok (.iconst 2, 1) := by decide +kernel
theorem dL_law_816 : decode cL_law 816 = .ok (.iadd, 1) := by decide +kernel
theorem dL_law_817 : decode cL_law 817 = .ok (.iaload, 1) := by decide +kernel
theorem dL_law_818 : decode cL_law 818 = .ok (.aload_n 0, 1) := by decide +kernel
theorem dL_law_819 : decode cL_law 819 = .ok (.iload_n 3, 1) := by decide +kernel
theorem dL_law_820 : decode cL_law 820 = .ok (.iconst 3, 1) := by decide +kernel
theorem dL_law_821 : decode cL_law 821 = .ok (.iadd, 1) := by decide +kernel
theorem dL_law_822 : decode cL_law 822 = .ok (.iaload, 1) := by decide +kernel
theorem dL_law_823 : decode cL_law 823 = .ok (.aload_n 0, 1) := by decide +kernel
theorem dL_law_824 : decode cL_law 824 = .ok (.iload_n 3, 1) := by decide +kernel
theorem dL_law_825 : decode cL_law 825 = .ok (.iconst 4, 1) := by decide +kernel
theorem dL_law_826 : decode cL_law 826 = .ok (.iadd, 1) := by decide +kernel
theorem dL_law_827 : decode cL_law 827 = .ok (.iaload, 1) := by decide +kernel
theorem dL_law_828 : decode cL_law 828 = .ok (.aload_n 0, 1) := by decide +kernel
theorem dL_law_829 : decode cL_law 829 = .ok (.iload_n 3, 1) := by decide +kernel
theorem dL_law_830 : decode cL_law 830 = .ok (.iconst 5, 1) := by decide +kernel
theorem dL_law_831 : decode cL_law 831 = .ok (.iadd, 1) := by decide +kernel
theorem dL_law_832 : decode cL_law 832 = .ok (.iaload, 1) := by decide +kernel
theorem dL_law_833 : decode cL_law 833 = .ok (.invokevirtual 95, 3) := by decide +kernel
theorem dL_law_836 : decode cL_law 836 = .ok (.aload_n 2, 1) := by decide +kernel
theorem dL_law_837 : decode cL_law 837 = .ok (.aload_n 0, 1) := by decide +kernel
theorem dL_law_838 : decode cL_law 838 = .ok (.iload_n 3, 1) := by decide +kernel
theorem dL_law_839 : decode cL_law 839 = .ok (.iconst 1, 1) := by decide +kernel
theorem dL_law_840 : decode cL_law 840 = .ok (.iadd, 1) := by decide +kernel
theorem dL_law_841 : decode cL_law 841 = .ok (.iaload, 1) := by decide +kernel
theorem dL_law_842 : decode cL_law 842 = .ok (.aload_n 0, 1) := by decide +kernel
theorem dL_law_843 : decode cL_law 843 = .ok (.iload_n 3, 1) := by decide +kernel
theorem dL_law_844 : decode cL_law 844 = .ok (.iconst 2, 1) := by decide +kernel
theorem dL_law_845 : decode cL_law 845 = .ok (.iadd, 1) := by decide +kernel
theorem dL_law_846 : decode cL_law 846 = .ok (.iaload, 1) := by decide +kernel
theorem dL_law_847 : decode cL_law 847 = .ok (.aload_n 0, 1) := by decide +kernel
theorem dL_law_848 : decode cL_law 848 = .ok (.iload_n 3, 1) := by decide +kernel
theorem dL_law_849 : decode cL_law 849 = .ok (.iconst 3, 1) := by decide +kernel
theorem dL_law_850 : decode cL_law 850 = .ok (.iadd, 1) := by decide +kernel
theorem dL_law_851 : decode cL_law 851 = .ok (.iaload, 1) := by decide +kernel
theorem dL_law_852 : decode cL_law 852 = .ok (.aload_n 0, 1) := by decide +kernel
theorem dL_law_853 : decode cL_law 853 = .ok (.iload_n 3, 1) := by decide +kernel
theorem dL_law_854 : decode cL_law 854 = .ok (.iconst 4, 1) := by decide +kernel
theorem dL_law_855 : decode cL_law 855 = .ok (.iadd, 1) := by decide +kernel
theorem dL_law_856 : decode cL_law 856 = .ok (.iaload, 1) := by decide +kernel
theorem dL_law_857 : decode cL_law 857 = .ok (.aload_n 0, 1) := by decide +kernel
theorem dL_law_858 : decode cL_law 858 = .ok (.iload_n 3, 1) := by decide +kernel
theorem dL_law_859 : decode cL_law 859 = .ok (.iconst 5, 1) := by decide +kernel
theorem dL_law_860 : decode cL_law 860 = .ok (.iadd, 1) := by decide +kernel
theorem dL_law_861 : decode cL_law 861 = .ok (.iaload, 1) := by decide +kernel
theorem dL_law_862 : decode cL_law 862 = .ok (.invokevirtual 99, 3) := by decide +kernel
theorem dL_law_865 : decode cL_law 865 = .ok (.if_icmp .eq 297, 3) := by decide +kernel
theorem dL_law_868 : decode cL_law 868 = .ok (.iconst 0, 1) := by decide +kernel
theorem dL_law_869 : decode cL_law 869 = .ok (.ireturn, 1) := by decide +kernel
theorem dL_law_870 : decode cL_law 870 = .ok (.aload_n 1, 1) := by decide +kernel
theorem dL_law_871 : decode cL_law 871 = .ok (.aload_n 0, 1) := by decide +kernel
theorem dL_law_872 : decode cL_law 872 = .ok (.iload_n 3, 1) := by decide +kernel
theorem dL_law_873 : decode cL_law 873 = .ok (.iconst 1, 1) := by decide +kernel
theorem dL_law_874 : decode cL_law 874 = .ok (.iadd, 1) := by decide +kernel
theorem dL_law_875 : decode cL_law 875 = .ok (.iaload, 1) := by decide +kernel
theorem dL_law_876 : decode cL_law 876 = .ok (.aload_n 0, 1) := by decide +kernel
theorem dL_law_877 : decode cL_law 877 = .ok (.iload_n 3, 1) := by decide +kernel
theorem dL_law_878 : decode cL_law 878 = .ok (.iconst 2, 1) := by decide +kernel
theorem dL_law_879 : decode cL_law 879 = .ok (.iadd, 1) := by decide +kernel
theorem dL_law_880 : decode cL_law 880 = .ok (.iaload, 1) := by decide +kernel
theorem dL_law_881 : decode cL_law 881 = .ok (.aload_n 0, 1) := by decide +kernel
theorem dL_law_882 : decode cL_law 882 = .ok (.iload_n 3, 1) := by decide +kernel
theorem dL_law_883 : decode cL_law 883 = .ok (.iconst 3, 1) := by decide +kernel
theorem dL_law_884 : decode cL_law 884 = .ok (.iadd, 1) := by decide +kernel
theorem dL_law_885 : decode cL_law 885 = .ok (.iaload, 1) := by decide +kernel
theorem dL_law_886 : decode cL_law 886 = .ok (.aload_n 0, 1) := by decide +kernel
theorem dL_law_887 : decode cL_law 887 = .ok (.iload_n 3, 1) := by decide +kernel
theorem dL_law_888 : decode cL_law 888 = .ok (.iconst 4, 1) := by decide +kernel
theorem dL_law_889 : decode cL_law 889 = .ok (.iadd, 1) := by decide +kernel
theorem dL_law_890 : decode cL_law 890 = .ok (.iaload, 1) := by decide +kernel
theorem dL_law_891 : decode cL_law 891 = .ok (.aload_n 0, 1) := by decide +kernel
theorem dL_law_892 : decode cL_law 892 = .ok (.iload_n 3, 1) := by decide +kernel
theorem dL_law_893 : decode cL_law 893 = .ok (.iconst 5, 1) := by decide +kernel
theorem dL_law_894 : decode cL_law 894 = .ok (.iadd, 1) := by decide +kernel
theorem dL_law_895 : decode cL_law 895 = .ok (.iaload, 1) := by decide +kernel
theorem dL_law_896 : decode cL_law 896 = .ok (.aload_n 0, 1) := by decide +kernel
theorem dL_law_897 : decode cL_law 897 = .ok (.iload_n 3, 1) := by decide +kernel
theorem dL_law_898 : decode cL_law 898 = .ok (.bipush 6, 2) := by decide +kernel
theorem dL_law_900 : decode cL_law 900 = .ok (.iadd, 1) := by decide +kernel
theorem dL_law_901 : decode cL_law 901 = .ok (.iaload, 1) := by decide +kernel
theorem dL_law_902 : decode cL_law 902 = .ok (.aload_n 0, 1) := by decide +kernel
theorem dL_law_903 : decode cL_law 903 = .ok (.iload_n 3, 1) := by decide +kernel
theorem dL_law_904 : decode cL_law 904 = .ok (.bipush 7, 2) := by decide +kernel
theorem dL_law_906 : decode cL_law 906 = .ok (.iadd, 1) := by decide +kernel
theorem dL_law_907 : decode cL_law 907 = .ok (.iaload, 1) := by decide +kernel
theorem dL_law_908 : decode cL_law 908 = .ok (.invokevirtual 100, 3) := by decide +kernel
theorem dL_law_911 : decode cL_law 911 = .ok (.aload_n 2, 1) := by decide +kernel
theorem dL_law_912 : decode cL_law 912 = .ok (.aload_n 0, 1) := by decide +kernel
theorem dL_law_913 : decode cL_law 913 = .ok (.iload_n 3, 1) := by decide +kernel
theorem dL_law_914 : decode cL_law 914 = .ok (.iconst 1, 1) := by decide +kernel
theorem dL_law_915 : decode cL_law 915 = .ok (.iadd, 1) := by decide +kernel
theorem dL_law_916 : decode cL_law 916 = .ok (.iaload, 1) := by decide +kernel
theorem dL_law_917 : decode cL_law 917 = .ok (.aload_n 0, 1) := by decide +kernel
theorem dL_law_918 : decode cL_law 918 = .ok (.iload_n 3, 1) := by decide +kernel
theorem dL_law_919 : decode cL_law 919 = .ok (.iconst 2, 1) := by decide +kernel
theorem dL_law_920 : decode cL_law 920 = .ok (.iadd, 1) := by decide +kernel
theorem dL_law_921 : decode cL_law 921 = .ok (.iaload, 1) := by decide +kernel
theorem dL_law_922 : decode cL_law 922 = .ok (.aload_n 0, 1) := by decide +kernel
theorem dL_law_923 : decode cL_law 923 = .ok (.iload_n 3, 1) := by decide +kernel
theorem dL_law_924 : decode cL_law 924 = .ok (.iconst 3, 1) := by decide +kernel
theorem dL_law_925 : decode cL_law 925 = .ok (.iadd, 1) := by decide +kernel
theorem dL_law_926 : decode cL_law 926 = .ok (.iaload, 1) := by decide +kernel
theorem dL_law_927 : decode cL_law 927 = .ok (.aload_n 0, 1) := by decide +kernel
theorem dL_law_928 : decode cL_law 928 = .ok (.iload_n 3, 1) := by decide +kernel
theorem dL_law_929 : decode cL_law 929 = .ok (.iconst 4, 1) := by decide +kernel
theorem dL_law_930 : decode cL_law 930 = .ok (.iadd, 1) := by decide +kernel
theorem dL_law_931 : decode cL_law 931 = .ok (.iaload, 1) := by decide +kernel
theorem dL_law_932 : decode cL_law 932 = .ok (.aload_n 0, 1) := by decide +kernel
theorem dL_law_933 : decode cL_law 933 = .ok (.iload_n 3, 1) := by decide +kernel
theorem dL_law_934 : decode cL_law 934 = .ok (.iconst 5, 1) := by decide +kernel
theorem dL_law_935 : decode cL_law 935 = .ok (.iadd, 1) := by decide +kernel
theorem dL_law_936 : decode cL_law 936 = .ok (.iaload, 1) := by decide +kernel
theorem dL_law_937 : decode cL_law 937 = .ok (.aload_n 0, 1) := by decide +kernel
theorem dL_law_938 : decode cL_law 938 = .ok (.iload_n 3, 1) := by decide +kernel
theorem dL_law_939 : decode cL_law 939 = .ok (.bipush 6, 2) := by decide +kernel
theorem dL_law_941 : decode cL_law 941 = .ok (.iadd, 1) := by decide +kernel
theorem dL_law_942 : decode cL_law 942 = .ok (.iaload, 1) := by decide +kernel
theorem dL_law_943 : decode cL_law 943 = .ok (.aload_n 0, 1) := by decide +kernel
theorem dL_law_944 : decode cL_law 944 = .ok (.iload_n 3, 1) := by decide +kernel
theorem dL_law_945 : decode cL_law 945 = .ok (.bipush 7, 2) := by decide +kernel
theorem dL_law_947 : decode cL_law 947 = .ok (.iadd, 1) := by decide +kernel
theorem dL_law_948 : decode cL_law 948 = .ok (.iaload, 1) := by decide +kernel
theorem dL_law_949 : decode cL_law 949 = .ok (.invokevirtual 104, 3) := by decide +kernel
theorem dL_law_952 : decode cL_law 952 = .ok (.if_icmp .eq 210, 3) := by decide +kernel
theorem dL_law_955 : decode cL_law 955 = .ok (.iconst 0, 1) := by decide +kernel
theorem dL_law_956 : decode cL_law 956 = .ok (.ireturn, 1) := by decide +kernel
theorem dL_law_957 : decode cL_law 957 = .ok (.aload_n 1, 1) := by decide +kernel
theorem dL_law_958 : decode cL_law 958 = .ok (.aload_n 0, 1) := by decide +kernel
theorem dL_law_959 : decode cL_law 959 = .ok (.iload_n 3, 1) := by decide +kernel
theorem dL_law_960 : decode cL_law 960 = .ok (.iconst 1, 1) := by decide +kernel
theorem dL_law_961 : decode cL_law 961 = .ok (.iadd, 1) := by decide +kernel
theorem dL_law_962 : decode cL_law 962 = .ok (.iaload, 1) := by decide +kernel
theorem dL_law_963 : decode cL_law 963 = .ok (.aload_n 0, 1) := by decide +kernel
theorem dL_law_964 : decode cL_law 964 = .ok (.iload_n 3, 1) := by decide +kernel
theorem dL_law_965 : decode cL_law 965 = .ok (.iconst 2, 1) := by decide +kernel
theorem dL_law_966 : decode cL_law 966 = .ok (.iadd, 1) := by decide +kernel
theorem dL_law_967 : decode cL_law 967 = .ok (.iaload, 1) := by decide +kernel
theorem dL_law_968 : decode cL_law 968 = .ok (.invokevirtual 105, 3) := by decide +kernel
theorem dL_law_971 : decode cL_law 971 = .ok (.aload_n 2, 1) := by decide +kernel
theorem dL_law_972 : decode cL_law 972 = .ok (.aload_n 0, 1) := by decide +kernel
theorem dL_law_973 : decode cL_law 973 = .ok (.iload_n 3, 1) := by decide +kernel
theorem dL_law_974 : decode cL_law 974 = .ok (.iconst 1, 1) := by decide +kernel
theorem dL_law_975 : decode cL_law 975 = .ok (.iadd, 1) := by decide +kernel
theorem dL_law_976 : decode cL_law 976 = .ok (.iaload, 1) := by decide +kernel
theorem dL_law_977 : decode cL_law 977 = .ok (.aload_n 0, 1) := by decide +kernel
theorem dL_law_978 : decode cL_law 978 = .ok (.iload_n 3, 1) := by decide +kernel
theorem dL_law_979 : decode cL_law 979 = .ok (.iconst 2, 1) := by decide +kernel
theorem dL_law_980 : decode cL_law 980 = .ok (.iadd, 1) := by decide +kernel
theorem dL_law_981 : decode cL_law 981 = .ok (.iaload, 1) := by decide +kernel
theorem dL_law_982 : decode cL_law 982 = .ok (.invokevirtual 108, 3) := by decide +kernel
theorem dL_law_985 : decode cL_law 985 = .ok (.if_icmp .eq 177, 3) := by decide +kernel
theorem dL_law_988 : decode cL_law 988 = .ok (.iconst 0, 1) := by decide +kernel
theorem dL_law_989 : decode cL_law 989 = .ok (.ireturn, 1) := by decide +kernel
theorem dL_law_990 : decode cL_law 990 = .ok (.aload_n 1, 1) := by decide +kernel
theorem dL_law_991 : decode cL_law 991 = .ok (.aload_n 0, 1) := by decide +kernel
theorem dL_law_992 : decode cL_law 992 = .ok (.iload_n 3, 1) := by decide +kernel
theorem dL_law_993 : decode cL_law 993 = .ok (.iconst 1, 1) := by decide +kernel
theorem dL_law_994 : decode cL_law 994 = .ok (.iadd, 1) := by decide +kernel
theorem dL_law_995 : decode cL_law 995 = .ok (.iaload, 1) := by decide +kernel
theorem dL_law_996 : decode cL_law 996 = .ok (.aload_n 0, 1) := by decide +kernel
theorem dL_law_997 : decode cL_law 997 = .ok (.iload_n 3, 1) := by decide +kernel
theorem dL_law_998 : decode cL_law 998 = .ok (.iconst 2, 1) := by decide +kernel
theorem dL_law_999 : decode cL_law 999 = .ok (.iadd, 1) := by decide +kernel
theorem dL_law_1000 : decode cL_law 1000 = .ok (.iaload, 1) := by decide +kernel
theorem dL_law_1001 : decode cL_law 1001 = .ok (.aload_n 0, 1) := by decide +kernel
theorem dL_law_1002 : decode cL_law 1002 = .ok (.iload_n 3, 1) := by decide +kernel
theorem dL_law_1003 : decode cL_law 1003 = .ok (.iconst 3, 1) := by decide +kernel
theorem dL_law_1004 : decode cL_law 1004 = .ok (.iadd, 1) := by decide +kernel
theorem dL_law_1005 : decode cL_law 1005 = .ok (.iaload, 1) := by decide +kernel
theorem dL_law_1006 : decode cL_law 1006 = .ok (.invokevirtual 109, 3) := by decide +kernel
theorem dL_law_1009 : decode cL_law 1009 = .ok (.aload_n 2, 1) := by decide +kernel
theorem dL_law_1010 : decode cL_law 1010 = .ok (.aload_n 0, 1) := by decide +kernel
theorem dL_law_1011 : decode cL_law 1011 = .ok (.iload_n 3, 1) := by decide +kernel
theorem dL_law_1012 : decode cL_law 1012 = .ok (.iconst 1, 1) := by decide +kernel
theorem dL_law_1013 : decode cL_law 1013 = .ok (.iadd, 1) := by decide +kernel
theorem dL_law_1014 : decode cL_law 1014 = .ok (.iaload, 1) := by decide +kernel
theorem dL_law_1015 : decode cL_law 1015 = .ok (.aload_n 0, 1) := by decide +kernel
theorem dL_law_1016 : decode cL_law 1016 = .ok (.iload_n 3, 1) := by decide +kernel
theorem dL_law_1017 : decode cL_law 1017 = .ok (.iconst 2, 1) := by decide +kernel
theorem dL_law_1018 : decode cL_law 1018 = .ok (.iadd, 1) := by decide +kernel
theorem dL_law_1019 : decode cL_law 1019 = .ok (.iaload, 1) := by decide +kernel
theorem dL_law_1020 : decode cL_law 1020 = .ok (.aload_n 0, 1) := by decide +kernel
theorem dL_law_1021 : decode cL_law 1021 = .ok (.iload_n 3, 1) := by decide +kernel
theorem dL_law_1022 : decode cL_law 1022 = .ok (.iconst 3, 1) := by decide +kernel
theorem dL_law_1023 : decode cL_law 1023 = .ok (.iadd, 1) := by decide +kernel
theorem dL_law_1024 : decode cL_law 1024 = .ok (.iaload, 1) := by decide +kernel
theorem dL_law_1025 : decode cL_law 1025 = .ok (.invokevirtual 112, 3) := by decide +kernel
theorem dL_law_1028 : decode cL_law 1028 = .ok (.if_icmp .eq 134, 3) := by decide +kernel
theorem dL_law_1031 : decode cL_law 1031 = .ok (.iconst 0, 1) := by decide +kernel
theorem dL_law_1032 : decode cL_law 1032 = .ok (.ireturn, 1) := by decide +kernel
theorem dL_law_1033 : decode cL_law 1033 = .ok (.aload_n 1, 1) := by decide +kernel
theorem dL_law_1034 : decode cL_law 1034 = .ok (.aload_n 0, 1) := by decide +kernel
theorem dL_law_1035 : decode cL_law 1035 = .ok (.iload_n 3, 1) := by decide +kernel
theorem dL_law_1036 : decode cL_law 1036 = .ok (.iconst 1, 1) := by decide +kernel
theorem dL_law_1037 : decode cL_law 1037 = .ok (.iadd, 1) := by decide +kernel
theorem dL_law_1038 : decode cL_law 1038 = .ok (.iaload, 1) := by decide +kernel
theorem dL_law_1039 : decode cL_law 1039 = .ok (.invokevirtual 113, 3) := by decide +kernel
theorem dL_law_1042 : decode cL_law 1042 = .ok (.aload_n 2, 1) := by decide +kernel
theorem dL_law_1043 : decode cL_law 1043 = .ok (.aload_n 0, 1) := by decide +kernel
theorem dL_law_1044 : decode cL_law 1044 = .ok (.iload_n 3, 1) := by decide +kernel
theorem dL_law_1045 : decode cL_law 1045 = .ok (.iconst 1, 1) := by decide +kernel
theorem dL_law_1046 : decode cL_law 1046 = .ok (.iadd, 1) := by decide +kernel
theorem dL_law_1047 : decode cL_law 1047 = .ok (.iaload, 1) := by decide +kernel
theorem dL_law_1048 : decode cL_law 1048 = .ok (.invokevirtual 116, 3) := by decide +kernel
theorem dL_law_1051 : decode cL_law 1051 = .ok (.if_icmp .eq 111, 3) := by decide +kernel
theorem dL_law_1054 : decode cL_law 1054 = .ok (.iconst 0, 1) := by decide +kernel
theorem dL_law_1055 : decode cL_law 1055 = .ok (.ireturn, 1) := by decide +kernel
theorem dL_law_1056 : decode cL_law 1056 = .ok (.aload_n 1, 1) := by decide +kernel
theorem dL_law_1057 : decode cL_law 1057 = .ok (.aload_n 0, 1) := by decide +kernel
theorem dL_law_1058 : decode cL_law 1058 = .ok (.iload_n 3, 1) := by decide +kernel
theorem dL_law_1059 : decode cL_law 1059 = .ok (.iconst 1, 1) := by decide +kernel
theorem dL_law_1060 : decode cL_law 1060 = .ok (.iadd, 1) := by decide +kernel
theorem dL_law_1061 : decode cL_law 1061 = .ok (.iaload, 1) := by decide +kernel
theorem dL_law_1062 : decode cL_law 1062 = .ok (.aload_n 0, 1) := by decide +kernel
theorem dL_law_1063 : decode cL_law 1063 = .ok (.iload_n 3, 1) := by decide +kernel
theorem dL_law_1064 : decode cL_law 1064 = .ok (.iconst 2, 1) := by decide +kernel
theorem dL_law_1065 : decode cL_law 1065 = .ok (.iadd, 1) := by decide +kernel
theorem dL_law_1066 : decode cL_law 1066 = .ok (.iaload, 1) := by decide +kernel
theorem dL_law_1067 : decode cL_law 1067 = .ok (.aload_n 0, 1) := by decide +kernel
theorem dL_law_1068 : decode cL_law 1068 = .ok (.iload_n 3, 1) := by decide +kernel
theorem dL_law_1069 : decode cL_law 1069 = .ok (.iconst 3, 1) := by decide +kernel
theorem dL_law_1070 : decode cL_law 1070 = .ok (.iadd, 1) := by decide +kernel
theorem dL_law_1071 : decode cL_law 1071 = .ok (.iaload, 1) := by decide +kernel
theorem dL_law_1072 : decode cL_law 1072 = .ok (.aload_n 0, 1) := by decide +kernel
theorem dL_law_1073 : decode cL_law 1073 = .ok (.iload_n 3, 1) := by decide +kernel
theorem dL_law_1074 : decode cL_law 1074 = .ok (.iconst 4, 1) := by decide +kernel
theorem dL_law_1075 : decode cL_law 1075 = .ok (.iadd, 1) := by decide +kernel
theorem dL_law_1076 : decode cL_law 1076 = .ok (.iaload, 1) := by decide +kernel
theorem dL_law_1077 : decode cL_law 1077 = .ok (.invokevirtual 117, 3) := by decide +kernel
theorem dL_law_1080 : decode cL_law 1080 = .ok (.aload_n 2, 1) := by decide +kernel
theorem dL_law_1081 : decode cL_law 1081 = .ok (.aload_n 0, 1) := by decide +kernel
theorem dL_law_1082 : decode cL_law 1082 = .ok (.iload_n 3, 1) := by decide +kernel
theorem dL_law_1083 : decode cL_law 1083 = .ok (.iconst 1, 1) := by decide +kernel
theorem dL_law_1084 : decode cL_law 1084 = .ok (.iadd, 1) := by decide +kernel
theorem dL_law_1085 : decode cL_law 1085 = .ok (.iaload, 1) := by decide +kernel
theorem dL_law_1086 : decode cL_law 1086 = .ok (.aload_n 0, 1) := by decide +kernel
theorem dL_law_1087 : decode cL_law 1087 = .ok (.iload_n 3, 1) := by decide +kernel
theorem dL_law_1088 : decode cL_law 1088 = .ok (.iconst 2, 1) := by decide +kernel
theorem dL_law_1089 : decode cL_law 1089 = .ok (.iadd, 1) := by decide +kernel
theorem dL_law_1090 : decode cL_law 1090 = .ok (.iaload, 1) := by decide +kernel
theorem dL_law_1091 : decode cL_law 1091 = .ok (.aload_n 0, 1) := by decide +kernel
theorem dL_law_1092 : decode cL_law 1092 = .ok (.iload_n 3, 1) := by decide +kernel
theorem dL_law_1093 : decode cL_law 1093 = .ok (.iconst 3, 1) := by decide +kernel
theorem dL_law_1094 : decode cL_law 1094 = .ok (.iadd, 1) := by decide +kernel
theorem dL_law_1095 : decode cL_law 1095 = .ok (.iaload, 1) := by decide +kernel
theorem dL_law_1096 : decode cL_law 1096 = .ok (.aload_n 0, 1) := by decide +kernel
theorem dL_law_1097 : decode cL_law 1097 = .ok (.iload_n 3, 1) := by decide +kernel
theorem dL_law_1098 : decode cL_law 1098 = .ok (.iconst 4, 1) := by decide +kernel
theorem dL_law_1099 : decode cL_law 1099 = .ok (.iadd, 1) := by decide +kernel
theorem dL_law_1100 : decode cL_law 1100 = .ok (.iaload, 1) := by decide +kernel
theorem dL_law_1101 : decode cL_law 1101 = .ok (.invokevirtual 120, 3) := by decide +kernel
theorem dL_law_1104 : decode cL_law 1104 = .ok (.if_icmp .eq 58, 3) := by decide +kernel
theorem dL_law_1107 : decode cL_law 1107 = .ok (.iconst 0, 1) := by decide +kernel
theorem dL_law_1108 : decode cL_law 1108 = .ok (.ireturn, 1) := by decide +kernel
theorem dL_law_1109 : decode cL_law 1109 = .ok (.aload_n 1, 1) := by decide +kernel
theorem dL_law_1110 : decode cL_law 1110 = .ok (.aload_n 0, 1) := by decide +kernel
theorem dL_law_1111 : decode cL_law 1111 = .ok (.iload_n 3, 1) := by decide +kernel
theorem dL_law_1112 : decode cL_law 1112 = .ok (.iconst 1, 1) := by decide +kernel
theorem dL_law_1113 : decode cL_law 1113 = .ok (.iadd, 1) := by decide +kernel
theorem dL_law_1114 : decode cL_law 1114 = .ok (.iaload, 1) := by decide +kernel
theorem dL_law_1115 : decode cL_law 1115 = .ok (.aload_n 0, 1) := by decide +kernel
theorem dL_law_1116 : decode cL_law 1116 = .ok (.iload_n 3, 1) := by decide +kernel
theorem dL_law_1117 : decode cL_law 1117 = .ok (.iconst 2, 1) := by decide +kernel
theorem dL_law_1118 : decode cL_law 1118 = .ok (.iadd, 1) := by decide +kernel
theorem dL_law_1119 : decode cL_law 1119 = .ok (.iaload, 1) := by decide +kernel
theorem dL_law_1120 : decode cL_law 1120 = .ok (.aload_n 0, 1) := by decide +kernel
theorem dL_law_1121 : decode cL_law 1121 = .ok (.iload_n 3, 1) := by decide +kernel
theorem dL_law_1122 : decode cL_law 1122 = .ok (.iconst 3, 1) := by decide +kernel
theorem dL_law_1123 : decode cL_law 1123 = .ok (.iadd, 1) := by decide +kernel
theorem dL_law_1124 : decode cL_law 1124 = .ok (.iaload, 1) := by decide +kernel
theorem dL_law_1125 : decode cL_law 1125 = .ok (.aload_n 0, 1) := by decide +kernel
theorem dL_law_1126 : decode cL_law 1126 = .ok (.iload_n 3, 1) := by decide +kernel
theorem dL_law_1127 : decode cL_law 1127 = .ok (.iconst 4, 1) := by decide +kernel
theorem dL_law_1128 : decode cL_law 1128 = .ok (.iadd, 1) := by decide +kernel
theorem dL_law_1129 : decode cL_law 1129 = .ok (.iaload, 1) := by decide +kernel
theorem dL_law_1130 : decode cL_law 1130 = .ok (.invokevirtual 121, 3) := by decide +kernel
theorem dL_law_1133 : decode cL_law 1133 = .ok (.aload_n 2, 1) := by decide +kernel
theorem dL_law_1134 : decode cL_law 1134 = .ok (.aload_n 0, 1) := by decide +kernel
theorem dL_law_1135 : decode cL_law 1135 = .ok (.iload_n 3, 1) := by decide +kernel
theorem dL_law_1136 : decode cL_law 1136 = .ok (.iconst 1, 1) := by decide +kernel
theorem dL_law_1137 : decode cL_law 1137 = .ok (.iadd, 1) := by decide +kernel
theorem dL_law_1138 : decode cL_law 1138 = .ok (.iaload, 1) := by decide +kernel
theorem dL_law_1139 : decode cL_law 1139 = .ok (.aload_n 0, 1) := by decide +kernel
theorem dL_law_1140 : decode cL_law 1140 = .ok (.iload_n 3, 1) := by decide +kernel
theorem dL_law_1141 : decode cL_law 1141 = .ok (.iconst 2, 1) := by decide +kernel
theorem dL_law_1142 : decode cL_law 1142 = .ok (.iadd, 1) := by decide +kernel
theorem dL_law_1143 : decode cL_law 1143 = .ok (.iaload, 1) := by decide +kernel
theorem dL_law_1144 : decode cL_law 1144 = .ok (.aload_n 0, 1) := by decide +kernel
theorem dL_law_1145 : decode cL_law 1145 = .ok (.iload_n 3, 1) := by decide +kernel
theorem dL_law_1146 : decode cL_law 1146 = .ok (.iconst 3, 1) := by decide +kernel
theorem dL_law_1147 : decode cL_law 1147 = .ok (.iadd, 1) := by decide +kernel
theorem dL_law_1148 : decode cL_law 1148 = .ok (.iaload, 1) := by decide +kernel
theorem dL_law_1149 : decode cL_law 1149 = .ok (.aload_n 0, 1) := by decide +kernel
theorem dL_law_1150 : decode cL_law 1150 = .ok (.iload_n 3, 1) := by decide +kernel
theorem dL_law_1151 : decode cL_law 1151 = .ok (.iconst 4, 1) := by decide +kernel
theorem dL_law_1152 : decode cL_law 1152 = .ok (.iadd, 1) := by decide +kernel
theorem dL_law_1153 : decode cL_law 1153 = .ok (.iaload, 1) := by decide +kernel
theorem dL_law_1154 : decode cL_law 1154 = .ok (.invokevirtual 124, 3) := by decide +kernel
theorem dL_law_1157 : decode cL_law 1157 = .ok (.if_icmp .eq 5, 3) := by decide +kernel
theorem dL_law_1160 : decode cL_law 1160 = .ok (.iconst 0, 1) := by decide +kernel
theorem dL_law_1161 : decode cL_law 1161 = .ok (.ireturn, 1) := by decide +kernel
theorem dL_law_1162 : decode cL_law 1162 = .ok (.iinc 3 8, 3) := by decide +kernel
theorem dL_law_1165 : decode cL_law 1165 = .ok (.goto (-1147), 3) := by decide +kernel
theorem dL_law_1168 : decode cL_law 1168 = .ok (.iconst 1, 1) := by decide +kernel
theorem dL_law_1169 : decode cL_law 1169 = .ok (.ireturn, 1) := by decide +kernel
abbrev vwCl : List vw_C := [(RX0, TX0, 8), (RX1, TX1, 3), (RX3, TX3, 3), (RX4, TX4, 6), (RX5, TX5, 3), (RX7, TX7, 8), (RX8, TX8, 19)]
