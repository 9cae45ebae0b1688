theorem dX4_fills_87 : decode cX4_fills 87 = .ok (.iconst 0, 1) := by decide +kernel
theorem dX4_fills_88 : decode cX4_fills 88 = .ok (.istore 5, 2) := by decide +kernel
theorem dX4_fills_90 : decode cX4_fills 90 = .ok (.iload_n 2, 1) := by decide +kernel
theorem dX4_fills_91 : decode cX4_fills 91 = .ok (.iload 5, 2) := by decide +kernel
theorem dX4_fills_93 : decode cX4_fills 93 = .ok (.ishr, 1) := by decide +kernel
theorem dX4_fills_94 : decode cX4_fills 94 = .ok (.iconst 3, 1) := by decide +kernel
theorem dX4_fills_95 : decode cX4_fills 95 = .ok (.iand, 1) := by decide +kernel
theorem dX4_fills_96 : decode cX4_fills 96 = .ok (.iconst 1, 1) := by decide +kernel
theorem dX4_fills_97 : decode cX4_fills 97 = .ok (.if_icmp .eq 9, 3) := by decide +kernel
theorem dX4_fills_100 : decode cX4_fills 100 = .ok (.iinc 5 1, 3) := by decide +kernel
theorem dX4_fills_103 : decode cX4_fills 103 = .ok (.goto (-13), 3) := by decide +kernel
theorem dX4_fills_106 : decode cX4_fills 106 = .ok (.iload_n 2, 1) := by decide +kernel
theorem dX4_fills_107 : decode cX4_fills 107 = .ok (.iconst 1, 1) := by decide +kernel
theorem dX4_fills_108 : decode cX4_fills 108 = .ok (.iload 5, 2) := by decide +kernel
theorem dX4_fills_110 : decode cX4_fills 110 = .ok (.ishl, 1) := by decide +kernel
theorem dX4_fills_111 : decode cX4_fills 111 = .ok (.iconst 1, 1) := by decide +kernel
theorem dX4_fills_112 : decode cX4_fills 112 = .ok (.isub, 1) := by decide +kernel
theorem dX4_fills_113 : decode cX4_fills 113 = .ok (.iand, 1) := by decide +kernel
theorem dX4_fills_114 : decode cX4_fills 114 = .ok (.iload_n 2, 1) := by decide +kernel
theorem dX4_fills_115 : decode cX4_fills 115 = .ok (.iload 5, 2) := by decide +kernel
theorem dX4_fills_117 : decode cX4_fills 117 = .ok (.iconst 2, 1) := by decide +kernel
theorem dX4_fills_118 : decode cX4_fills 118 = .ok (.iadd, 1) := by decide +kernel
theorem dX4_fills_119 : decode cX4_fills 119 = .ok (.ishr, 1) := by decide +kernel
theorem dX4_fills_120 : decode cX4_fills 120 = .ok (.iload 5, 2) := by decide +kernel
theorem dX4_fills_122 : decode cX4_fills 122 = .ok (.iconst 1, 1) := by decide +kernel
theorem dX4_fills_123 : decode cX4_fills 123 = .ok (.iadd, 1) := by decide +kernel
theorem dX4_fills_124 : decode cX4_fills 124 = .ok (.ishl, 1) := by decide +kernel
theorem dX4_fills_125 : decode cX4_fills 125 = .ok (.ior, 1) := by decide +kernel
theorem dX4_fills_126 : decode cX4_fills 126 = .ok (.istore 6, 2) := by decide +kernel
theorem dX4_fills_128 : decode cX4_fills 128 = .ok (.aload_n 0, 1) := by decide +kernel
theorem dX4_fills_129 : decode cX4_fills 129 = .ok (.iload_n 1, 1) := by decide +kernel
theorem dX4_fills_130 : decode cX4_fills 130 = .ok (.iconst 1, 1) := by decide +kernel
theorem dX4_fills_131 : decode cX4_fills 131 = .ok (.isub, 1) := by decide +kernel
theorem dX4_fills_132 : decode cX4_fills 132 = .ok (.iload 6, 2) := by decide +kernel
theorem dX4_fills_134 : decode cX4_fills 134 = .ok (.iconst 1, 1) := by decide +kernel
theorem dX4_fills_135 : decode cX4_fills 135 = .ok (.iload 5, 2) := by decide +kernel
theorem dX4_fills_137 : decode cX4_fills 137 = .ok (.ishl, 1) := by decide +kernel
theorem dX4_fills_138 : decode cX4_fills 138 = .ok (.ior, 1) := by decide +kernel
theorem dX4_fills_139 : decode cX4_fills 139 = .ok (.invokevirtual 37, 3) := by decide +kernel
theorem dX4_fills_142 : decode cX4_fills 142 = .ok (.aload_n 0, 1) := by decide +kernel
theorem dX4_fills_143 : decode cX4_fills 143 = .ok (.iload_n 1, 1) := by decide +kernel
theorem dX4_fills_144 : decode cX4_fills 144 = .ok (.iconst 1, 1) := by decide +kernel
theorem dX4_fills_145 : decode cX4_fills 145 = .ok (.isub, 1) := by decide +kernel
theorem dX4_fills_146 : decode cX4_fills 146 = .ok (.iload 6, 2) := by decide +kernel
theorem dX4_fills_148 : decode cX4_fills 148 = .ok (.invokevirtual 37, 3) := by decide +kernel
theorem dX4_fills_151 : decode cX4_fills 151 = .ok (.ladd, 1) := by decide +kernel
theorem dX4_fills_152 : decode cX4_fills 152 = .ok (.lstore_n 3, 1) := by decide +kernel
theorem dX4_fills_153 : decode cX4_fills 153 = .ok (.aload_n 0, 1) := by decide +kernel
theorem dX4_fills_154 : decode cX4_fills 154 = .ok (.getfield 19, 3) := by decide +kernel
theorem dX4_fills_157 : decode cX4_fills 157 = .ok (.iconst 1, 1) := by decide +kernel
theorem dX4_fills_158 : decode cX4_fills 158 = .ok (.iload_n 1, 1) := by decide +kernel
theorem dX4_fills_159 : decode cX4_fills 159 = .ok (.ishl, 1) := by decide +kernel
theorem dX4_fills_160 : decode cX4_fills 160 = .ok (.iconst 1, 1) := by decide +kernel
theorem dX4_fills_161 : decode cX4_fills 161 = .ok (.isub, 1) := by decide +kernel
theorem dX4_fills_162 : decode cX4_fills 162 = .ok (.iload_n 2, 1) := by decide +kernel
theorem dX4_fills_163 : decode cX4_fills 163 = .ok (.iadd, 1) := by decide +kernel
theorem dX4_fills_164 : decode cX4_fills 164 = .ok (.lload_n 3, 1) := by decide +kernel
theorem dX4_fills_165 : decode cX4_fills 165 = .ok (.lastore, 1) := by decide +kernel
theorem dX4_fills_166 : decode cX4_fills 166 = .ok (.iinc 2 1, 3) := by decide +kernel
theorem dX4_fills_169 : decode cX4_fills 169 = .ok (.goto (-152), 3) := by decide +kernel
theorem dX4_fills_172 : decode cX4_fills 172 = .ok (.iinc 1 1, 3) := by decide +kernel
theorem dX4_fills_175 : decode cX4_fills 175 = .ok (.goto (-166), 3) := by decide +kernel
theorem dX4_fills_178 : decode cX4_fills 178 = .ok (.return_, 1) := by decide +kernel
set_option maxRecDepth 20000 in
theorem ggX4_row_X4_in : GoodIn wsX4_row wsX4_in := goodIn_r _ [9] (by decide +kernel) (by decide +kernel)
set_option maxRecDepth 20000 in
theorem gX4_row_X4_in : GoodIn wsX4_row (va_wsS RX4 43 yX4_in wsX4_in) := goodIn_app (goodIn_of _ (by decide +kernel)) ggX4_row_X4_in
set_option maxRecDepth 20000 in
theorem ggX4_row_X4_fills : GoodIn wsX4_row wsX4_fills := goodIn_r _ [13, 14, 4, 5, 15, 16, 17, 8, 18, 19, 20, 21, 22, 23, 24, 25, 26, 27, 28, 29, 30, 31] (by decide +kernel) (by decide +kernel)
set_option maxRecDepth 20000 in
theorem gX4_row_X4_fills : GoodIn wsX4_row (wsV RX4 34 RX4 yX4_fills wsX4_fills) := goodIn_app (goodIn_of _ (by decide +kernel)) ggX4_row_X4_fills
theorem dX4_row_0 : decode cX4_row 0 = .ok (.iload_n 1, 1) := by decide +kernel
theorem dX4_row_1 : decode cX4_row 1 = .ok (.i2l, 1) := by decide +kernel
theorem dX4_row_2 : decode cX4_row 2 = .ok (.lconst 1, 1) := by decide +kernel
theorem dX4_row_3 : decode cX4_row 3 = .ok (.ldc2_w 41, 3) := by decide +kernel
theorem dX4_row_6 : decode cX4_row 6 = .ok (.invokestatic 43, 3) := by decide +kernel
theorem dX4_row_9 : decode cX4_row 9 = .ok (.ifCond .eq 27, 3) := by decide +kernel
theorem dX4_row_12 : decode cX4_row 12 = .ok (.iload_n 2, 1) := by decide +kernel
theorem dX4_row_13 : decode cX4_row 13 = .ok (.i2l, 1) := by decide +kernel
theorem dX4_row_14 : decode cX4_row 14 = .ok (.lconst 1, 1) := by decide +kernel
theorem dX4_row_15 : decode cX4_row 15 = .ok (.ldc2_w 47, 3) := by decide +kernel
theorem dX4_row_18 : decode cX4_row 18 = .ok (.invokestatic 43, 3) := by decide +kernel
theorem dX4_row_21 : decode cX4_row 21 = .ok (.ifCond .eq 15, 3) := by decide +kernel
theorem dX4_row_24 : decode cX4_row 24 = .ok (.iload_n 3, 1) := by decide +kernel
theorem dX4_row_25 : decode cX4_row 25 = .ok (.i2l, 1) := by decide +kernel
theorem dX4_row_26 : decode cX4_row 26 = .ok (.lconst 1, 1) := by decide +kernel
theorem dX4_row_27 : decode cX4_row 27 = .ok (.ldc2_w 47, 3) := by decide +kernel
theorem dX4_row_30 : decode cX4_row 30 = .ok (.invokestatic 43, 3) := by decide +kernel
theorem dX4_row_33 : decode cX4_row 33 = .ok (.ifCond .ne 5, 3) := by decide +kernel
theorem dX4_row_36 : decode cX4_row 36 = .ok (.iconst (-1), 1) := by decide +kernel
theorem dX4_row_37 : decode cX4_row 37 = .ok (.ireturn, 1) := by decide +kernel
theorem dX4_row_38 : decode cX4_row 38 = .ok (.aload_n 0, 1) := by decide +kernel
theorem dX4_row_39 : decode cX4_row 39 = .ok (.iload_n 1, 1) := by decide +kernel
theorem dX4_row_40 : decode cX4_row 40 = .ok (.putfield 7, 3) := by decide +kernel
theorem dX4_row_43 : decode cX4_row 43 = .ok (.aload_n 0, 1) := by decide +kernel
theorem dX4_row_44 : decode cX4_row 44 = .ok (.iload_n 2, 1) := by decide +kernel
theorem dX4_row_45 : decode cX4_row 45 = .ok (.putfield 13, 3) := by decide +kernel
theorem dX4_row_48 : decode cX4_row 48 = .ok (.aload_n 0, 1) := by decide +kernel
theorem dX4_row_49 : decode cX4_row 49 = .ok (.iload_n 3, 1) := by decide +kernel
theorem dX4_row_50 : decode cX4_row 50 = .ok (.putfield 16, 3) := by decide +kernel
theorem dX4_row_53 : decode cX4_row 53 = .ok (.aload_n 0, 1) := by decide +kernel
theorem dX4_row_54 : decode cX4_row 54 = .ok (.invokevirtual 34, 3) := by decide +kernel
theorem dX4_row_57 : decode cX4_row 57 = .ok (.iconst 1, 1) := by decide +kernel
theorem dX4_row_58 : decode cX4_row 58 = .ok (.aload_n 0, 1) := by decide +kernel
theorem dX4_row_59 : decode cX4_row 59 = .ok (.getfield 7, 3) := by decide +kernel
theorem dX4_row_62 : decode cX4_row 62 = .ok (.ishl, 1) := by decide +kernel
theorem dX4_row_63 : decode cX4_row 63 = .ok (.ireturn, 1) := by decide +kernel
set_option maxRecDepth 20000 in
theorem ggX4_isState_X4_in : GoodIn wsX4_isState wsX4_in := goodIn_r _ [5] (by decide +kernel) (by decide +kernel)
set_option maxRecDepth 20000 in
theorem gX4_isState_X4_in : GoodIn wsX4_isState (va_wsS RX4 43 yX4_in wsX4_in) := goodIn_app (goodIn_of _ (by decide +kernel)) ggX4_isState_X4_in
theorem dX4_isState_0 : decode cX4_isState 0 = .ok (.iload_n 1, 1) := by decide +kernel
theorem dX4_isState_1 : decode cX4_isState 1 = .ok (.i2l, 1) := by decide +kernel
theorem dX4_isState_2 : decode cX4_isState 2 = .ok (.lconst 0, 1) := by decide +kernel
theorem dX4_isState_3 : decode cX4_isState 3 = .ok (.iconst 1, 1) := by decide +kernel
theorem dX4_isState_4 : decode cX4_isState 4 = .ok (.aload_n 0, 1) := by decide +kernel
theorem dX4_isState_5 : decode cX4_isState 5 = .ok (.getfield 7, 3) := by decide +kernel
theorem dX4_isState_8 : decode cX4_isState 8 = .ok (.ishl, 1) := by decide +kernel
theorem dX4_isState_9 : decode cX4_isState 9 = .ok (.iconst 1, 1) := by decide +kernel
theorem dX4_isState_10 : decode cX4_isState 10 = .ok (.isub, 1) := by decide +kernel
theorem dX4_isState_11 : decode cX4_isState 11 = .ok (.i2l, 1) := by decide +kernel
theorem dX4_isState_12 : decode cX4_isState 12 = .ok (.invokestatic 43, 3) := by decide +kernel
theorem dX4_isState_15 : decode cX4_isState 15 = .ok (.ireturn, 1) := by decide +kernel
set_option maxRecDepth 20000 in
theorem ggX4_weight_X4_isState : GoodIn wsX4_weight wsX4_isState := goodIn_r _ [7, 1, 8, 9, 6, 10, 16, 17, 18, 19, 20, 21, 22, 23, 24, 25, 26, 27, 28] (by decide +kernel) (by decide +kernel)
set_option maxRecDepth 20000 in
theorem gX4_weight_X4_isState : GoodIn wsX4_weight (wsV RX4 49 RX4 yX4_isState wsX4_isState) := goodIn_app (goodIn_of _ (by decide +kernel)) ggX4_weight_X4_isState
set_option maxRecDepth 20000 in
theorem ggX4_weight_X4_weigh : GoodIn wsX4_weight wsX4_weigh := goodIn_r _ [14, 15, 16, 17, 18, 19, 20, 21, 22, 23, 24, 25, 26, 27, 28] (by decide +kernel) (by decide +kernel)
set_option maxRecDepth 20000 in
theorem gX4_weight_X4_weigh : GoodIn wsX4_weight (wsV RX4 37 RX4 yX4_weigh wsX4_weigh) := goodIn_app (goodIn_of _ (by decide +kernel)) ggX4_weight_X4_weigh
theorem dX4_weight_0 : decode cX4_weight 0 = .ok (.aload_n 0, 1) := by decide +kernel
theorem dX4_weight_1 : decode cX4_weight 1 = .ok (.iload_n 1, 1) := by decide +kernel
theorem dX4_weight_2 : decode cX4_weight 2 = .ok (.invokevirtual 49, 3) := by decide +kernel
theorem dX4_weight_5 : decode cX4_weight 5 = .ok (.ifCond .eq 15, 3) := by decide +kernel
theorem dX4_weight_8 : decode cX4_weight 8 = .ok (.aload_n 0, 1) := by decide +kernel
theorem dX4_weight_9 : decode cX4_weight 9 = .ok (.aload_n 0, 1) := by decide +kernel
theorem dX4_weight_10 : decode cX4_weight 10 = .ok (.getfield 7, 3) := by decide +kernel
theorem dX4_weight_13 : decode cX4_weight 13 = .ok (.iload_n 1, 1) := by decide +kernel
theorem dX4_weight_14 : decode cX4_weight 14 = .ok (.invokevirtual 37, 3) := by decide +kernel
theorem dX4_weight_17 : decode cX4_weight 17 = .ok (.goto 6, 3) := by decide +kernel
theorem dX4_weight_20 : decode cX4_weight 20 = .ok (.ldc2_w 53, 3) := by decide +kernel
theorem dX4_weight_23 : decode cX4_weight 23 = .ok (.lreturn, 1) := by decide +kernel
set_option maxRecDepth 20000 in
theorem ggX4_sumOf_X4_weigh : GoodIn wsX4_sumOf wsX4_weigh := goodIn_r _ [5, 6, 7, 8, 9, 10, 11, 12, 13, 14, 15, 16, 17, 18, 19] (by decide +kernel) (by decide +kernel)
set_option maxRecDepth 20000 in
theorem gX4_sumOf_X4_weigh : GoodIn wsX4_sumOf (wsV RX4 37 RX4 yX4_weigh wsX4_weigh) := goodIn_app (goodIn_of _ (by decide +kernel)) ggX4_sumOf_X4_weigh
theorem dX4_sumOf_0 : decode cX4_sumOf 0 = .ok (.lconst 0, 1) := by decide +kernel
theorem dX4_sumOf_1 : decode cX4_sumOf 1 = .ok (.lstore_n 2, 1) := by decide +kernel
theorem dX4_sumOf_2 : decode cX4_sumOf 2 = .ok (.iconst 0, 1) := by decide +kernel
theorem dX4_sumOf_3 : decode cX4_sumOf 3 = .ok (.istore 4, 2) := by decide +kernel
theorem dX4_sumOf_5 : decode cX4_sumOf 5 = .ok (.iload 4, 2) := by decide +kernel
theorem dX4_sumOf_7 : decode cX4_sumOf 7 = .ok (.iconst 1, 1) := by decide +kernel
theorem dX4_sumOf_8 : decode cX4_sumOf 8 = .ok (.iload_n 1, 1) := by decide +kernel
theorem dX4_sumOf_9 : decode cX4_sumOf 9 = .ok (.ishl, 1) := by decide +kernel
theorem dX4_sumOf_10 : decode cX4_sumOf 10 = .ok (.if_icmp .ge 19, 3) := by decide +kernel
theorem dX4_sumOf_13 : decode cX4_sumOf 13 = .ok (.lload_n 2, 1) := by decide +kernel
theorem dX4_sumOf_14 : decode cX4_sumOf 14 = .ok (.aload_n 0, 1) := by decide +kernel
theorem dX4_sumOf_15 : decode cX4_sumOf 15 = .ok (.iload_n 1, 1) := by decide +kernel
theorem dX4_sumOf_16 : decode cX4_sumOf 16 = .ok (.iload 4, 2) := by decide +kernel
theorem dX4_sumOf_18 : decode cX4_sumOf 18 = .ok (.invokevirtual 37, 3) := by decide +kernel
theorem dX4_sumOf_21 : decode cX4_sumOf 21 = .ok (.ladd, 1) := by decide +kernel
theorem dX4_sumOf_22 : decode cX4_sumOf 22 = .ok (.lstore_n 2, 1) := by decide +kernel
theorem dX4_sumOf_23 : decode cX4_sumOf 23 = .ok (.iinc 4 1, 3) := by decide +kernel
theorem dX4_sumOf_26 : decode cX4_sumOf 26 = .ok (.goto (-21), 3) := by decide +kernel
theorem dX4_sumOf_29 : decode cX4_sumOf 29 = .ok (.lload_n 2, 1) := by decide +kernel
theorem dX4_sumOf_30 : decode cX4_sumOf 30 = .ok (.lreturn, 1) := by decide +kernel
set_option maxRecDepth 20000 in
theorem ggX4_sum_X4_in : GoodIn wsX4_sum wsX4_in := goodIn_r _ [6] (by decide +kernel) (by decide +kernel)
set_option maxRecDepth 20000 in
theorem gX4_sum_X4_in : GoodIn wsX4_sum (va_wsS RX4 43 yX4_in wsX4_in) := goodIn_app (goodIn_of _ (by decide +kernel)) ggX4_sum_X4_in
set_option maxRecDepth 20000 in
theorem ggX4_sum_X4_sumOf : GoodIn wsX4_sum wsX4_sumOf := goodIn_r _ [10, 11, 12, 13, 5, 14, 15, 16, 17, 18, 19, 20, 21, 22, 23, 24, 25, 26, 27, 28] (by decide +kernel) (by decide +kernel)
set_option maxRecDepth 20000 in
theorem gX4_sum_X4_sumOf : GoodIn wsX4_sum (wsV RX4 55 RX4 yX4_sumOf wsX4_sumOf) := goodIn_app (goodIn_of _ (by decide +kernel)) ggX4_sum_X4_sumOf
theorem dX4_sum_0 : decode cX4_sum 0 = .ok (.iload_n 1, 1) := by decide +kernel
theorem dX4_sum_1 : decode cX4_sum 1 = .ok (.i2l, 1) := by decide +kernel
theorem dX4_sum_2 : decode cX4_sum 2 = .ok (.lconst 0, 1) := by decide +kernel
theorem dX4_sum_3 : decode cX4_sum 3 = .ok (.ldc2_w 41, 3) := by decide +kernel
theorem dX4_sum_6 : decode cX4_sum 6 = .ok (.invokestatic 43, 3) := by decide +kernel
theorem dX4_sum_9 : decode cX4_sum 9 = .ok (.ifCond .eq 11, 3) := by decide +kernel
theorem dX4_sum_12 : decode cX4_sum 12 = .ok (.aload_n 0, 1) := by decide +kernel
theorem dX4_sum_13 : decode cX4_sum 13 = .ok (.iload_n 1, 1) := by decide +kernel
theorem dX4_sum_14 : decode cX4_sum 14 = .ok (.invokevirtual 55, 3) := by decide +kernel
theorem dX4_sum_17 : decode cX4_sum 17 = .ok (.goto 6, 3) := by decide +kernel
theorem dX4_sum_20 : decode cX4_sum 20 = .ok (.ldc2_w 53, 3) := by decide +kernel
theorem dX4_sum_23 : decode cX4_sum 23 = .ok (.lreturn, 1) := by decide +kernel
theorem dX4_least_0 : decode cX4_least 0 = .ok (.lload_n 0, 1) := by decide +kernel
theorem dX4_least_1 : decode cX4_least 1 = .ok (.lstore 5, 2) := by decide +kernel
theorem dX4_least_3 : decode cX4_least 3 = .ok (.lload_n 2, 1) := by decide +kernel
theorem dX4_least_4 : decode cX4_least 4 = .ok (.lstore 7, 2) := by decide +kernel
theorem dX4_least_6 : decode cX4_least 6 = .ok (.lload 7, 2) := by decide +kernel
theorem dX4_least_8 : decode cX4_least 8 = .ok (.lconst 0, 1) := by decide +kernel
theorem dX4_least_9 : decode cX4_least 9 = .ok (.lcmp, 1) := by decide +kernel
theorem dX4_least_10 : decode cX4_least 10 = .ok (.ifCond .eq 21, 3) := by decide +kernel
theorem dX4_least_13 : decode cX4_least 13 = .ok (.lload 5, 2) := by decide +kernel
theorem dX4_least_15 : decode cX4_least 15 = .ok (.lload 7, 2) := by decide +kernel
theorem dX4_least_17 : decode cX4_least 17 = .ok (.lrem, 1) := by decide +kernel
theorem dX4_least_18 : decode cX4_least 18 = .ok (.lstore 9, 2) := by decide +kernel
theorem dX4_least_20 : decode cX4_least 20 = .ok (.lload 7, 2) := by decide +kernel
theorem dX4_least_22 : decode cX4_least 22 = .ok (.lstore 5, 2) := by decide +kernel
theorem dX4_least_24 : decode cX4_least 24 = .ok (.lload 9, 2) := by decide +kernel
theorem dX4_least_26 : decode cX4_least 26 = .ok (.lstore 7, 2) := by decide +kernel
theorem dX4_least_28 : decode cX4_least 28 = .ok (.goto (-22), 3) := by decide +kernel
theorem dX4_least_31 : decode cX4_least 31 = .ok (.iload 4, 2) := by decide +kernel
theorem dX4_least_33 : decode cX4_least 33 = .ok (.ifCond .ne 7, 3) := by decide +kernel
theorem dX4_least_36 : decode cX4_least 36 = .ok (.lload_n 0, 1) := by decide +kernel
theorem dX4_least_37 : decode cX4_least 37 = .ok (.goto 4, 3) := by decide +kernel
theorem dX4_least_40 : decode cX4_least 40 = .ok (.lload_n 2, 1) := by decide +kernel
theorem dX4_least_41 : decode cX4_least 41 = .ok (.lload 5, 2) := by decide +kernel
theorem dX4_least_43 : decode cX4_least 43 = .ok (.ldiv, 1) := by decide +kernel
theorem dX4_least_44 : decode cX4_least 44 = .ok (.lreturn, 1) := by decide +kernel
set_option maxRecDepth 20000 in
theorem ggX4_chance_X4_isState : GoodIn wsX4_chance wsX4_isState := goodIn_r _ [7, 1, 8, 9, 6, 10, 23, 24, 25, 26, 27, 28, 29, 30, 31, 32, 33, 34, 35] (by decide +kernel) (by decide +kernel)
set_option maxRecDepth 20000 in
theorem gX4_chance_X4_isState : GoodIn wsX4_chance (wsV RX4 49 RX4 yX4_isState wsX4_isState) := goodIn_app (goodIn_of _ (by decide +kernel)) ggX4_chance_X4_isState
set_option maxRecDepth 20000 in
theorem ggX4_chance_X4_in : GoodIn wsX4_chance wsX4_in := goodIn_r _ [10] (by decide +kernel) (by decide +kernel)
set_option maxRecDepth 20000 in
theorem gX4_chance_X4_in : GoodIn wsX4_chance (va_wsS RX4 43 yX4_in wsX4_in) := goodIn_app (goodIn_of _ (by decide +kernel)) ggX4_chance_X4_in
set_option maxRecDepth 20000 in
theorem ggX4_chance_X4_weigh : GoodIn wsX4_chance wsX4_weigh := goodIn_r _ [14, 15, 23, 24, 25, 26, 27, 28, 29, 30, 31, 32, 33, 34, 35] (by decide +kernel) (by decide +kernel)
set_option maxRecDepth 20000 in
theorem gX4_chance_X4_weigh : GoodIn wsX4_chance (wsV RX4 37 RX4 yX4_weigh wsX4_weigh) := goodIn_app (goodIn_of _ (by decide +kernel)) ggX4_chance_X4_weigh
set_option maxRecDepth 20000 in
theorem ggX4_chance_X4_sumOf : GoodIn wsX4_chance wsX4_sumOf := goodIn_r _ [19, 11, 12, 13, 6, 14, 15, 23, 24, 25, 26, 27, 28, 29, 30, 31, 32, 33, 34, 35] (by decide +kernel) (by decide +kernel)
set_option maxRecDepth 20000 in
theorem gX4_chance_X4_sumOf : GoodIn wsX4_chance (wsV RX4 55 RX4 yX4_sumOf wsX4_sumOf) := goodIn_app (goodIn_of _ (by decide +kernel)) ggX4_chance_X4_sumOf
set_option maxRecDepth 20000 in
theorem ggX4_chance_X4_least : GoodIn wsX4_chance wsX4_least := goodIn_r _ [22] (by decide +kernel) (by decide +kernel)
set_option maxRecDepth 20000 in
theorem gX4_chance_X4_least : GoodIn wsX4_chance (va_wsS RX4 59 yX4_least wsX4_least) := goodIn_app (goodIn_of _ (by decide +kernel)) ggX4_chance_X4_least
theorem dX4_chance_0 : decode cX4_chance 0 = .ok (.aload_n 0, 1) := by decide +kernel
theorem dX4_chance_1 : decode cX4_chance 1 = .ok (.iload_n 1, 1) := by decide +kernel
theorem dX4_chance_2 : decode cX4_chance 2 = .ok (.invokevirtual 49, 3) := by decide +kernel
theorem dX4_chance_5 : decode cX4_chance 5 = .ok (.ifCond .eq 37, 3) := by decide +kernel
theorem dX4_chance_8 : decode cX4_chance 8 = .ok (.iload_n 2, 1) := by decide +kernel
theorem dX4_chance_9 : decode cX4_chance 9 = .ok (.i2l, 1) := by decide +kernel
theorem dX4_chance_10 : decode cX4_chance 10 = .ok (.lconst 0, 1) := by decide +kernel
theorem dX4_chance_11 : decode cX4_chance 11 = .ok (.lconst 1, 1) := by decide +kernel
theorem dX4_chance_12 : decode cX4_chance 12 = .ok (.invokestatic 43, 3) := by decide +kernel
theorem dX4_chance_15 : decode cX4_chance 15 = .ok (.ifCond .eq 27, 3) := by decide +kernel
theorem dX4_chance_18 : decode cX4_chance 18 = .ok (.aload_n 0, 1) := by decide +kernel
theorem dX4_chance_19 : decode cX4_chance 19 = .ok (.aload_n 0, 1) := by decide +kernel
theorem dX4_chance_20 : decode cX4_chance 20 = .ok (.getfield 7, 3) := by decide +kernel
theorem dX4_chance_23 : decode cX4_chance 23 = .ok (.iload_n 1, 1) := by decide +kernel
theorem dX4_chance_24 : decode cX4_chance 24 = .ok (.invokevirtual 37, 3) := by decide +kernel
theorem dX4_chance_27 : decode cX4_chance 27 = .ok (.aload_n 0, 1) := by decide +kernel
theorem dX4_chance_28 : decode cX4_chance 28 = .ok (.aload_n 0, 1) := by decide +kernel
theorem dX4_chance_29 : decode cX4_chance 29 = .ok (.getfield 7, 3) := by decide +kernel
theorem dX4_chance_32 : decode cX4_chance 32 = .ok (.invokevirtual 55, 3) := by decide +kernel
theorem dX4_chance_35 : decode cX4_chance 35 = .ok (.iload_n 2, 1) := by decide +kernel
theorem dX4_chance_36 : decode cX4_chance 36 = .ok (.invokestatic 59, 3) := by decide +kernel
theorem dX4_chance_39 : decode cX4_chance 39 = .ok (.goto 6, 3) := by decide +kernel
theorem dX4_chance_42 : decode cX4_chance 42 = .ok (.ldc2_w 53, 3) := by decide +kernel
theorem dX4_chance_45 : decode cX4_chance 45 = .ok (.lreturn, 1) := by decide +kernel
set_option maxRecDepth 20000 in
theorem ggX4_current_X4_in : GoodIn wsX4_current wsX4_in := goodIn_r _ [6] (by decide +kernel) (by decide +kernel)
set_option maxRecDepth 20000 in
theorem gX4_current_X4_in : GoodIn wsX4_current (va_wsS RX4 43 yX4_in wsX4_in) := goodIn_app (goodIn_of _ (by decide +kernel)) ggX4_current_X4_in
set_option maxRecDepth 20000 in
theorem ggX4_current_X4_sumOf : GoodIn wsX4_current wsX4_sumOf := goodIn_r _ [10, 11, 12, 13, 5, 14, 15, 19, 20, 21, 22, 23, 24, 25, 26, 27, 28, 29, 30, 31] (by decide +kernel) (by decide +kernel)
set_option maxRecDepth 20000 in
theorem gX4_current_X4_sumOf : GoodIn wsX4_current (wsV RX4 55 RX4 yX4_sumOf wsX4_sumOf) := goodIn_app (goodIn_of _ (by decide +kernel)) ggX4_current_X4_sumOf
set_option maxRecDepth 20000 in
theorem ggX4_current_X4_least : GoodIn wsX4_current wsX4_least := goodIn_r _ [18] (by decide +kernel) (by decide +kernel)
set_option maxRecDepth 20000 in
theorem gX4_current_X4_least : GoodIn wsX4_current (va_wsS RX4 59 yX4_least wsX4_least) := goodIn_app (goodIn_of _ (by decide +kernel)) ggX4_current_X4_least
theorem dX4_current_0 : decode cX4_current 0 = .ok (.iload_n 1, 1) := by decide +kernel
theorem dX4_current_1 : decode cX4_current 1 = .ok (.i2l, 1) := by decide +kernel
theorem dX4_current_2 : decode cX4_current 2 = .ok (.lconst 0, 1) := by decide +kernel
theorem dX4_current_3 : decode cX4_current 3 = .ok (.lconst 1, 1) := by decide +kernel
theorem dX4_current_4 : decode cX4_current 4 = .ok (.invokestatic 43, 3) := by decide +kernel
theorem dX4_current_7 : decode cX4_current 7 = .ok (.ifCond .eq 28, 3) := by decide +kernel
theorem dX4_current_10 : decode cX4_current 10 = .ok (.aload_n 0, 1) := by decide +kernel
theorem dX4_current_11 : decode cX4_current 11 = .ok (.aload_n 0, 1) := by decide +kernel
theorem dX4_current_12 : decode cX4_current 12 = .ok (.getfield 7, 3) := by decide +kernel
theorem dX4_current_15 : decode cX4_current 15 = .ok (.iconst 1, 1) := by decide +kernel
theorem dX4_current_16 : decode cX4_current 16 = .ok (.isub, 1) := by decide +kernel
theorem dX4_current_17 : decode cX4_current 17 = .ok (.invokevirtual 55, 3) := by decide +kernel
theorem dX4_current_20 : decode cX4_current 20 = .ok (.aload_n 0, 1) := by decide +kernel
theorem dX4_current_21 : decode cX4_current 21 = .ok (.aload_n 0, 1) := by decide +kernel
theorem dX4_current_22 : decode cX4_current 22 = .ok (.getfield 7, 3) := by decide +kernel
theorem dX4_current_25 : decode cX4_current 25 = .ok (.invokevirtual 55, 3) := by decide +kernel
theorem dX4_current_28 : decode cX4_current 28 = .ok (.iload_n 1, 1) := by decide +kernel
theorem dX4_current_29 : decode cX4_current 29 = .ok (.invokestatic 59, 3) := by decide +kernel
theorem dX4_current_32 : decode cX4_current 32 = .ok (.goto 6, 3) := by decide +kernel
theorem dX4_current_35 : decode cX4_current 35 = .ok (.ldc2_w 53, 3) := by decide +kernel
theorem dX4_current_38 : decode cX4_current 38 = .ok (.lreturn, 1) := by decide +kernel
set_option maxRecDepth 20000 in
theorem ggX4_taken_X4_isState : GoodIn wsX4_taken wsX4_isState := goodIn_r _ [7, 2, 8, 9, 6, 10, 23, 24, 25, 26, 27, 28, 29, 30, 31, 32, 33, 34, 35] (by decide +kernel) (by decide +kernel)
set_option maxRecDepth 20000 in
theorem gX4_taken_X4_isState : GoodIn wsX4_taken (wsV RX4 49 RX4 yX4_isState wsX4_isState) := goodIn_app (goodIn_of _ (by decide +kernel)) ggX4_taken_X4_isState
set_option maxRecDepth 20000 in
theorem ggX4_taken_X4_in : GoodIn wsX4_taken wsX4_in := goodIn_r _ [10] (by decide +kernel) (by decide +kernel)
set_option maxRecDepth 20000 in
theorem gX4_taken_X4_in : GoodIn wsX4_taken (va_wsS RX4 43 yX4_in wsX4_in) := goodIn_app (goodIn_of _ (by decide +kernel)) ggX4_taken_X4_in
set_option maxRecDepth 20000 in
theorem ggX4_taken_X4_weigh : GoodIn wsX4_taken wsX4_weigh := goodIn_r _ [14, 15, 23, 24, 25, 26, 27, 28, 29, 30, 31, 32, 33, 34, 35] (by decide +kernel) (by decide +kernel)
set_option maxRecDepth 20000 in
theorem gX4_taken_X4_weigh : GoodIn wsX4_taken (wsV RX4 37 RX4 yX4_weigh wsX4_weigh) := goodIn_app (goodIn_of _ (by decide +kernel)) ggX4_taken_X4_weigh
set_option maxRecDepth 20000 in
theorem ggX4_taken_X4_sumOf : GoodIn wsX4_taken wsX4_sumOf := goodIn_r _ [19, 11, 12, 13, 6, 14, 15, 23, 24, 25, 26, 27, 28, 29, 30, 31, 32, 33, 34, 35] (by decide +kernel) (by decide +kernel)
set_option maxRecDepth 20000 in
theorem gX4_taken_X4_sumOf : GoodIn wsX4_taken (wsV RX4 55 RX4 yX4_sumOf wsX4_sumOf) := goodIn_app (goodIn_of _ (by decide +kernel)) ggX4_taken_X4_sumOf
set_option maxRecDepth 20000 in
theorem ggX4_taken_X4_least : GoodIn wsX4_taken wsX4_least := goodIn_r _ [22] (by decide +kernel) (by decide +kernel)
set_option maxRecDepth 20000 in
theorem gX4_taken_X4_least : GoodIn wsX4_taken (va_wsS RX4 59 yX4_least wsX4_least) := goodIn_app (goodIn_of _ (by decide +kernel)) ggX4_taken_X4_least
theorem dX4_taken_0 : decode cX4_taken 0 = .ok (.aload_n 0, 1) := by decide +kernel
theorem dX4_taken_1 : decode cX4_taken 1 = .ok (.iload_n 1, 1) := by decide +kernel
theorem dX4_taken_2 : decode cX4_taken 2 = .ok (.invokevirtual 49, 3) := by decide +kernel
theorem dX4_taken_5 : decode cX4_taken 5 = .ok (.ifCond .eq 13, 3) := by decide +kernel
theorem dX4_taken_8 : decode cX4_taken 8 = .ok (.iload_n 2, 1) := by decide +kernel
theorem dX4_taken_9 : decode cX4_taken 9 = .ok (.i2l, 1) := by decide +kernel
theorem dX4_taken_10 : decode cX4_taken 10 = .ok (.lconst 0, 1) := by decide +kernel
theorem dX4_taken_11 : decode cX4_taken 11 = .ok (.lconst 1, 1) := by decide +kernel
theorem dX4_taken_12 : decode cX4_taken 12 = .ok (.invokestatic 43, 3) := by decide +kernel
theorem dX4_taken_15 : decode cX4_taken 15 = .ok (.ifCond .ne 7, 3) := by decide +kernel
theorem dX4_taken_18 : decode cX4_taken 18 = .ok (.ldc2_w 53, 3) := by decide +kernel
theorem dX4_taken_21 : decode cX4_taken 21 = .ok (.lreturn, 1) := by decide +kernel
theorem dX4_taken_22 : decode cX4_taken 22 = .ok (.lconst 0, 1) := by decide +kernel
theorem dX4_taken_23 : decode cX4_taken 23 = .ok (.lstore_n 3, 1) := by decide +kernel
theorem dX4_taken_24 : decode cX4_taken 24 = .ok (.iconst 0, 1) := by decide +kernel
theorem dX4_taken_25 : decode cX4_taken 25 = .ok (.istore 5, 2) := by decide +kernel
theorem dX4_taken_27 : decode cX4_taken 27 = .ok (.iload 5, 2) := by decide +kernel
theorem dX4_taken_29 : decode cX4_taken 29 = .ok (.iconst 1, 1) := by decide +kernel
theorem dX4_taken_30 : decode cX4_taken 30 = .ok (.aload_n 0, 1) := by decide +kernel
theorem dX4_taken_31 : decode cX4_taken 31 = .ok (.getfield 7, 3) := by decide +kernel
theorem dX4_taken_34 : decode cX4_taken 34 = .ok (.ishl, 1) := by decide +kernel
theorem dX4_taken_35 : decode cX4_taken 35 = .ok (.if_icmp .ge 34, 3) := by decide +kernel
theorem dX4_taken_38 : decode cX4_taken 38 = .ok (.lload_n 3, 1) := by decide +kernel
theorem dX4_taken_39 : decode cX4_taken 39 = .ok (.iload 5, 2) := by decide +kernel
theorem dX4_taken_41 : decode cX4_taken 41 = .ok (.iload_n 1, 1) := by decide +kernel
theorem dX4_taken_42 : decode cX4_taken 42 = .ok (.iand, 1) := by decide +kernel
theorem dX4_taken_43 : decode cX4_taken 43 = .ok (.iload_n 1, 1) := by decide +kernel
theorem dX4_taken_44 : decode cX4_taken 44 = .ok (.if_icmp .ne 16, 3) := by decide +kernel
theorem dX4_taken_47 : decode cX4_taken 47 = .ok (.aload_n 0, 1) := by decide +kernel
theorem dX4_taken_48 : decode cX4_taken 48 = .ok (.aload_n 0, 1) := by decide +kernel
theorem dX4_taken_49 : decode cX4_taken 49 = .ok (.getfield 7, 3) := by decide +kernel
theorem dX4_taken_52 : decode cX4_taken 52 = .ok (.iload 5, 2) := by decide +kernel
theorem dX4_taken_54 : decode cX4_taken 54 = .ok (.invokevirtual 37, 3) := by decide +kernel
theorem dX4_taken_57 : decode cX4_taken 57 = .ok (.goto 4, 3) := by decide +kernel
theorem dX4_taken_60 : decode cX4_taken 60 = .ok (.lconst 0, 1) := by decide +kernel
theorem dX4_taken_61 : decode cX4_taken 61 = .ok (.ladd, 1) := by decide +kernel
theorem dX4_taken_62 : decode cX4_taken 62 = .ok (.lstore_n 3, 1) := by decide +kernel
theorem dX4_taken_63 : decode cX4_taken 63 = .ok (.iinc 5 1, 3) := by decide +kernel
theorem dX4_taken_66 : decode cX4_taken 66 = .ok (.goto (-39), 3) := by decide +kernel
theorem dX4_taken_69 : decode cX4_taken 69 = .ok (.lload_n 3, 1) := by decide +kernel
theorem dX4_taken_70 : decode cX4_taken 70 = .ok (.aload_n 0, 1) := by decide +kernel
theorem dX4_taken_71 : decode cX4_taken 71 = .ok (.aload_n 0, 1) := by decide +kernel
theorem dX4_taken_72 : decode cX4_taken 72 = .ok (.getfield 7, 3) := by decide +kernel
theorem dX4_taken_75 : decode cX4_taken 75 = .ok (.invokevirtual 55, 3) := by decide +kernel
theorem dX4_taken_78 : decode cX4_taken 78 = .ok (.iload_n 2, 1) := by decide +kernel
theorem dX4_taken_79 : decode cX4_taken 79 = .ok (.invokestatic 59, 3) := by decide +kernel
theorem dX4_taken_82 : decode cX4_taken 82 = .ok (.lreturn, 1) := by decide +kernel
theorem dX4_happens_0 : decode cX4_happens 0 = .ok (.iload_n 2, 1) := by decide +kernel
theorem dX4_happens_1 : decode cX4_happens 1 = .ok (.aload_n 0, 1) := by decide +kernel
theorem dX4_happens_2 : decode cX4_happens 2 = .ok (.getfield 7, 3) := by decide +kernel
theorem dX4_happens_5 : decode cX4_happens 5 = .ok (.if_icmp .ne 26, 3) := by decide +kernel
theorem dX4_happens_8 : decode cX4_happens 8 = .ok (.aload_n 0, 1) := by decide +kernel
theorem dX4_happens_9 : decode cX4_happens 9 = .ok (.iload_n 1, 1) := by decide +kernel
theorem dX4_happens_10 : decode cX4_happens 10 = .ok (.iconst 1, 1) := by decide +kernel
theorem dX4_happens_11 : decode cX4_happens 11 = .ok (.ior, 1) := by decide +kernel
theorem dX4_happens_12 : decode cX4_happens 12 = .ok (.putfield 63, 3) := by decide +kernel
theorem dX4_happens_15 : decode cX4_happens 15 = .ok (.iload_n 1, 1) := by decide +kernel
theorem dX4_happens_16 : decode cX4_happens 16 = .ok (.iconst 1, 1) := by decide +kernel
theorem dX4_happens_17 : decode cX4_happens 17 = .ok (.iand, 1) := by decide +kernel
theorem dX4_happens_18 : decode cX4_happens 18 = .ok (.ifCond .ne 11, 3) := by decide +kernel
theorem dX4_happens_21 : decode cX4_happens 21 = .ok (.aload_n 0, 1) := by decide +kernel
theorem dX4_happens_22 : decode cX4_happens 22 = .ok (.getfield 16, 3) := by decide +kernel
theorem dX4_happens_25 : decode cX4_happens 25 = .ok (.i2l, 1) := by decide +kernel
theorem dX4_happens_26 : decode cX4_happens 26 = .ok (.goto 4, 3) := by decide +kernel
theorem dX4_happens_29 : decode cX4_happens 29 = .ok (.lconst 0, 1) := by decide +kernel
theorem dX4_happens_30 : decode cX4_happens 30 = .ok (.lreturn, 1) := by decide +kernel
theorem dX4_happens_31 : decode cX4_happens 31 = .ok (.iload_n 2, 1) := by decide +kernel
theorem dX4_happens_32 : decode cX4_happens 32 = .ok (.aload_n 0, 1) := by decide +kernel
theorem dX4_happens_33 : decode cX4_happens 33 = .ok (.getfield 7, 3) := by decide +kernel
theorem dX4_happens_36 : decode cX4_happens 36 = .ok (.iconst 1, 1) := by decide +kernel
theorem dX4_happens_37 : decode cX4_happens 37 = .ok (.isub, 1) := by decide +kernel
theorem dX4_happens_38 : decode cX4_happens 38 = .ok (.if_icmp .ne 43, 3) := by decide +kernel
theorem dX4_happens_41 : decode cX4_happens 41 = .ok (.aload_n 0, 1) := by decide +kernel
theorem dX4_happens_42 : decode cX4_happens 42 = .ok (.iload_n 1, 1) := by decide +kernel
theorem dX4_happens_43 : decode cX4_happens 43 = .ok (.iconst 1, 1) := by decide +kernel
theorem dX4_happens_44 : decode cX4_happens 44 = .ok (.aload_n 0, 1) := by decide +kernel
theorem dX4_happens_45 : decode cX4_happens 45 = .ok (.getfield 7, 3) := by decide +kernel
theorem dX4_happens_48 : decode cX4_happens 48 = .ok (.iconst 1, 1) := by decide +kernel
theorem dX4_happens_49 : decode cX4_happens 49 = .ok (.isub, 1) := by decide +kernel
theorem dX4_happens_50 : decode cX4_happens 50 = .ok (.ishl, 1) := by decide +kernel
theorem dX4_happens_51 : decode cX4_happens 51 = .ok (.iconst (-1), 1) := by decide +kernel
theorem dX4_happens_52 : decode cX4_happens 52 = .ok (.ixor, 1) := by decide +kernel
theorem dX4_happens_53 : decode cX4_happens 53 = .ok (.iand, 1) := by decide +kernel
theorem dX4_happens_54 : decode cX4_happens 54 = .ok (.putfield 63, 3) := by decide +kernel
theorem dX4_happens_57 : decode cX4_happens 57 = .ok (.iload_n 1, 1) := by decide +kernel
theorem dX4_happens_58 : decode cX4_happens 58 = .ok (.aload_n 0, 1) := by decide +kernel
theorem dX4_happens_59 : decode cX4_happens 59 = .ok (.getfield 7, 3) := by decide +kernel
theorem dX4_happens_62 : decode cX4_happens 62 = .ok (.iconst 1, 1) := by decide +kernel
theorem dX4_happens_63 : decode cX4_happens 63 = .ok (.isub, 1) := by decide +kernel
theorem dX4_happens_64 : decode cX4_happens 64 = .ok (.ishr, 1) := by decide +kernel
theorem dX4_happens_65 : decode cX4_happens 65 = .ok (.iconst 1, 1) := by decide +kernel
theorem dX4_happens_66 : decode cX4_happens 66 = .ok (.iand, 1) := by decide +kernel
theorem dX4_happens_67 : decode cX4_happens 67 = .ok (.iconst 1, 1) := by decide +kernel
theorem dX4_happens_68 : decode cX4_happens 68 = .ok (.if_icmp .ne 11, 3) := by decide +kernel
theorem dX4_happens_71 : decode cX4_happens 71 = .ok (.aload_n 0, 1) := by decide +kernel
theorem dX4_happens_72 : decode cX4_happens 72 = .ok (.getfield 13, 3) := by decide +kernel
theorem dX4_happens_75 : decode cX4_happens 75 = .ok (.i2l, 1) := by decide +kernel
theorem dX4_happens_76 : decode cX4_happens 76 = .ok (.goto 4, 3) := by decide +kernel
theorem dX4_happens_79 : decode cX4_happens 79 = .ok (.lconst 0, 1) := by decide +kernel
theorem dX4_happens_80 : decode cX4_happens 80 = .ok (.lreturn, 1) := by decide +kernel
theorem dX4_happens_81 : decode cX4_happens 81 = .ok (.aload_n 0, 1) := by decide +kernel
theorem dX4_happens_82 : decode cX4_happens 82 = .ok (.iload_n 1, 1) := by decide +kernel
theorem dX4_happens_83 : decode cX4_happens 83 = .ok (.iconst 1, 1) := by decide +kernel
theorem dX4_happens_84 : decode cX4_happens 84 = .ok (.iload_n 2, 1) := by decide +kernel
theorem dX4_happens_85 : decode cX4_happens 85 = .ok (.ishl, 1) := by decide +kernel
theorem dX4_happens_86 : decode cX4_happens 86 = .ok (.iconst (-1), 1) := by decide +kernel
theorem dX4_happens_87 : decode cX4_happens 87 = .ok (.ixor, 1) := by decide +kernel
theorem dX4_happens_88 : decode cX4_happens 88 = .ok (.iand, 1) := by decide +kernel
theorem dX4_happens_89 : decode cX4_happens 89 = .ok (.iconst 1, 1) := by decide +kernel
theorem dX4_happens_90 : decode cX4_happens 90 = .ok (.iload_n 2, 1) := by decide +kernel
theorem dX4_happens_91 : decode cX4_happens 91 = .ok (.iconst 1, 1) := by decide +kernel
theorem dX4_happens_92 : decode cX4_happens 92 = .ok (.iadd, 1) := by decide +kernel
theorem dX4_happens_93 : decode cX4_happens 93 = .ok (.ishl, 1) := by decide +kernel
theorem dX4_happens_94 : decode cX4_happens 94 = .ok (.ior, 1) := by decide +kernel
theorem dX4_happens_95 : decode cX4_happens 95 = .ok (.putfield 63, 3) := by decide +kernel
theorem dX4_happens_98 : decode cX4_happens 98 = .ok (.iload_n 1, 1) := by decide +kernel
theorem dX4_happens_99 : decode cX4_happens 99 = .ok (.iload_n 2, 1) := by decide +kernel
theorem dX4_happens_100 : decode cX4_happens 100 = .ok (.ishr, 1) := by decide +kernel
theorem dX4_happens_101 : decode cX4_happens 101 = .ok (.iconst 3, 1) := by decide +kernel
theorem dX4_happens_102 : decode cX4_happens 102 = .ok (.iand, 1) := by decide +kernel
theorem dX4_happens_103 : decode cX4_happens 103 = .ok (.iconst 1, 1) := by decide +kernel
theorem dX4_happens_104 : decode cX4_happens 104 = .ok (.if_icmp .ne 17, 3) := by decide +kernel
theorem dX4_happens_107 : decode cX4_happens 107 = .ok (.aload_n 0, 1) := by decide +kernel
theorem dX4_happens_108 : decode cX4_happens 108 = .ok (.getfield 13, 3) := by decide +kernel
theorem dX4_happens_111 : decode cX4_happens 111 = .ok (.i2l, 1) := by decide +kernel
theorem dX4_happens_112 : decode cX4_happens 112 = .ok (.aload_n 0, 1) := by decide +kernel
theorem dX4_happens_113 : decode cX4_happens 113 = .ok (.getfield 16, 3) := by decide +kernel
theorem dX4_happens_116 : decode cX4_happens 116 = .ok (.i2l, 1) := by decide +kernel
theorem dX4_happens_117 : decode cX4_happens 117 = .ok (.lmul, 1) := by decide +kernel
theorem dX4_happens_118 : decode cX4_happens 118 = .ok (.goto 4, 3) := by decide +kernel
theorem dX4_happens_121 : decode cX4_happens 121 = .ok (.lconst 0, 1) := by decide +kernel
theorem dX4_happens_122 : decode cX4_happens 122 = .ok (.lreturn, 1) := by decide +kernel
set_option maxRecDepth 20000 in
theorem ggX4_flow_X4_isState : GoodIn wsX4_flow wsX4_isState := goodIn_r _ [8, 2, 9, 10, 7, 11, 23, 24, 25, 26, 27, 28, 29, 30, 31, 32, 33, 34, 35] (by decide +kernel) (by decide +kernel)
set_option maxRecDepth 20000 in
theorem gX4_flow_X4_isState : GoodIn wsX4_flow (wsV RX4 49 RX4 yX4_isState wsX4_isState) := goodIn_app (goodIn_of _ (by decide +kernel)) ggX4_flow_X4_isState
set_option maxRecDepth 20000 in
theorem ggX4_flow_X4_in : GoodIn wsX4_flow wsX4_in := goodIn_r _ [11] (by decide +kernel) (by decide +kernel)
set_option maxRecDepth 20000 in
theorem gX4_flow_X4_in : GoodIn wsX4_flow (va_wsS RX4 43 yX4_in wsX4_in) := goodIn_app (goodIn_of _ (by decide +kernel)) ggX4_flow_X4_in
set_option maxRecDepth 20000 in
theorem ggX4_flow_X4_weigh : GoodIn wsX4_flow wsX4_weigh := goodIn_r _ [15, 16, 23, 24, 25, 26, 27, 28, 29, 30, 31, 32, 33, 34, 35] (by decide +kernel) (by decide +kernel)
set_option maxRecDepth 20000 in
theorem gX4_flow_X4_weigh : GoodIn wsX4_flow (wsV RX4 37 RX4 yX4_weigh wsX4_weigh) := goodIn_app (goodIn_of _ (by decide +kernel)) ggX4_flow_X4_weigh
set_option maxRecDepth 20000 in
theorem ggX4_flow_X4_happens : GoodIn wsX4_flow wsX4_happens := goodIn_r _ [20, 2, 3, 21, 22, 23, 24, 25, 26, 27, 28, 29, 30, 31, 32, 33, 34, 35] (by decide +kernel) (by decide +kernel)
set_option maxRecDepth 20000 in
theorem gX4_flow_X4_happens : GoodIn wsX4_flow (wsV RX4 66 RX4 yX4_happens wsX4_happens) := goodIn_app (goodIn_of _ (by decide +kernel)) ggX4_flow_X4_happens
theorem dX4_flow_0 : decode cX4_flow 0 = .ok (.aload_n 0, 1) := by decide +kernel
theorem dX4_flow_1 : decode cX4_flow 1 = .ok (.iload_n 1, 1) := by decide +kernel
theorem dX4_flow_2 : decode cX4_flow 2 = .ok (.invokevirtual 49, 3) := by decide +kernel
theorem dX4_flow_5 : decode cX4_flow 5 = .ok (.ifCond .eq 13, 3) := by decide +kernel
theorem dX4_flow_8 : decode cX4_flow 8 = .ok (.iload_n 2, 1) := by decide +kernel
theorem dX4_flow_9 : decode cX4_flow 9 = .ok (.i2l, 1) := by decide +kernel
theorem dX4_flow_10 : decode cX4_flow 10 = .ok (.lconst 0, 1) := by decide +kernel
theorem dX4_flow_11 : decode cX4_flow 11 = .ok (.lconst 1, 1) := by decide +kernel
theorem dX4_flow_12 : decode cX4_flow 12 = .ok (.invokestatic 43, 3) := by decide +kernel
theorem dX4_flow_15 : decode cX4_flow 15 = .ok (.ifCond .ne 7, 3) := by decide +kernel
theorem dX4_flow_18 : decode cX4_flow 18 = .ok (.ldc2_w 53, 3) := by decide +kernel
theorem dX4_flow_21 : decode cX4_flow 21 = .ok (.lreturn, 1) := by decide +kernel
theorem dX4_flow_22 : decode cX4_flow 22 = .ok (.lconst 0, 1) := by decide +kernel
theorem dX4_flow_23 : decode cX4_flow 23 = .ok (.lstore_n 3, 1) := by decide +kernel
theorem dX4_flow_24 : decode cX4_flow 24 = .ok (.iconst 0, 1) := by decide +kernel
theorem dX4_flow_25 : decode cX4_flow 25 = .ok (.istore 5, 2) := by decide +kernel
theorem dX4_flow_27 : decode cX4_flow 27 = .ok (.iload 5, 2) := by decide +kernel
theorem dX4_flow_29 : decode cX4_flow 29 = .ok (.aload_n 0, 1) := by decide +kernel
theorem dX4_flow_30 : decode cX4_flow 30 = .ok (.getfield 7, 3) := by decide +kernel
theorem dX4_flow_33 : decode cX4_flow 33 = .ok (.if_icmp .gt 102, 3) := by decide +kernel
theorem dX4_flow_36 : decode cX4_flow 36 = .ok (.iload_n 2, 1) := by decide +kernel
theorem dX4_flow_37 : decode cX4_flow 37 = .ok (.iconst 1, 1) := by decide +kernel
theorem dX4_flow_38 : decode cX4_flow 38 = .ok (.if_icmp .ne 26, 3) := by decide +kernel
theorem dX4_flow_41 : decode cX4_flow 41 = .ok (.lload_n 3, 1) := by decide +kernel
theorem dX4_flow_42 : decode cX4_flow 42 = .ok (.aload_n 0, 1) := by decide +kernel
theorem dX4_flow_43 : decode cX4_flow 43 = .ok (.aload_n 0, 1) := by decide +kernel
theorem dX4_flow_44 : decode cX4_flow 44 = .ok (.getfield 7, 3) := by decide +kernel
theorem dX4_flow_47 : decode cX4_flow 47 = .ok (.iload_n 1, 1) := by decide +kernel
theorem dX4_flow_48 : decode cX4_flow 48 = .ok (.invokevirtual 37, 3) := by decide +kernel
theorem dX4_flow_51 : decode cX4_flow 51 = .ok (.aload_n 0, 1) := by decide +kernel
theorem dX4_flow_52 : decode cX4_flow 52 = .ok (.iload_n 1, 1) := by decide +kernel
theorem dX4_flow_53 : decode cX4_flow 53 = .ok (.iload 5, 2) := by decide +kernel
theorem dX4_flow_55 : decode cX4_flow 55 = .ok (.invokevirtual 66, 3) := by decide +kernel
theorem dX4_flow_58 : decode cX4_flow 58 = .ok (.lmul, 1) := by decide +kernel
theorem dX4_flow_59 : decode cX4_flow 59 = .ok (.ladd, 1) := by decide +kernel
theorem dX4_flow_60 : decode cX4_flow 60 = .ok (.lstore_n 3, 1) := by decide +kernel
theorem dX4_flow_61 : decode cX4_flow 61 = .ok (.goto 68, 3) := by decide +kernel
theorem dX4_flow_64 : decode cX4_flow 64 = .ok (.iconst 0, 1) := by decide +kernel
theorem dX4_flow_65 : decode cX4_flow 65 = .ok (.istore 6, 2) := by decide +kernel
theorem dX4_flow_67 : decode cX4_flow 67 = .ok (.iload 6, 2) := by decide +kernel
theorem dX4_flow_69 : decode cX4_flow 69 = .ok (.iconst 1, 1) := by decide +kernel
theorem dX4_flow_70 : decode cX4_flow 70 = .ok (.aload_n 0, 1) := by decide +kernel
theorem dX4_flow_71 : decode cX4_flow 71 = .ok (.getfield 7, 3) := by decide +kernel
theorem dX4_flow_74 : decode cX4_flow 74 = .ok (.ishl, 1) := by decide +kernel
theorem dX4_flow_75 : decode cX4_flow 75 = .ok (.if_icmp .ge 54, 3) := by decide +kernel
theorem dX4_flow_78 : decode cX4_flow 78 = .ok (.aload_n 0, 1) := by decide +kernel
theorem dX4_flow_79 : decode cX4_flow 79 = .ok (.iload 6, 2) := by decide +kernel
theorem dX4_flow_81 : decode cX4_flow 81 = .ok (.iload 5, 2) := by decide +kernel
theorem dX4_flow_83 : decode cX4_flow 83 = .ok (.invokevirtual 66, 3) := by decide +kernel
theorem dX4_flow_86 : decode cX4_flow 86 = .ok (.lstore 7, 2) := by decide +kernel
theorem dX4_flow_88 : decode cX4_flow 88 = .ok (.lload_n 3, 1) := by decide +kernel
theorem dX4_flow_89 : decode cX4_flow 89 = .ok (.lload 7, 2) := by decide +kernel
theorem dX4_flow_91 : decode cX4_flow 91 = .ok (.lconst 0, 1) := by decide +kernel
theorem dX4_flow_92 : decode cX4_flow 92 = .ok (.lcmp, 1) := by decide +kernel
theorem dX4_flow_93 : decode cX4_flow 93 = .ok (.ifCond .le 27, 3) := by decide +kernel
theorem dX4_flow_96 : decode cX4_flow 96 = .ok (.aload_n 0, 1) := by decide +kernel
theorem dX4_flow_97 : decode cX4_flow 97 = .ok (.getfield 63, 3) := by decide +kernel
theorem dX4_flow_100 : decode cX4_flow 100 = .ok (.iload_n 1, 1) := by decide +kernel
theorem dX4_flow_101 : decode cX4_flow 101 = .ok (.if_icmp .ne 19, 3) := by decide +kernel
theorem dX4_flow_104 : decode cX4_flow 104 = .ok (.aload_n 0, 1) := by decide +kernel
theorem dX4_flow_105 : decode cX4_flow 105 = .ok (.aload_n 0, 1) := by decide +kernel
theorem dX4_flow_106 : decode cX4_flow 106 = .ok (.getfield 7, 3) := by decide +kernel
theorem dX4_flow_109 : decode cX4_flow 109 = .ok (.iload 6, 2) := by decide +kernel
theorem dX4_flow_111 : decode cX4_flow 111 = .ok (.invokevirtual 37, 3) := by decide +kernel
theorem dX4_flow_114 : decode cX4_flow 114 = .ok (.lload 7, 2) := by decide +kernel
theorem dX4_flow_116 : decode cX4_flow 116 = .ok (.lmul, 1) := by decide +kernel
theorem dX4_flow_117 : decode cX4_flow 117 = .ok (.goto 4, 3) := by decide +kernel
theorem dX4_flow_120 : decode cX4_flow 120 = .ok (.lconst 0, 1) := by decide +kernel
theorem dX4_flow_121 : decode cX4_flow 121 = .ok (.ladd, 1) := by decide +kernel
theorem dX4_flow_122 : decode cX4_flow 122 = .ok (.lstore_n 3, 1) := by decide +kernel
theorem dX4_flow_123 : decode cX4_flow 123 = .ok (.iinc 6 1, 3) := by decide +kernel
theorem dX4_flow_126 : decode cX4_flow 126 = .ok (.goto (-59), 3) := by decide +kernel
theorem dX4_flow_129 : decode cX4_flow 129 = .ok (.iinc 5 1, 3) := by decide +kernel
theorem dX4_flow_132 : decode cX4_flow 132 = .ok (.goto (-105), 3) := by decide +kernel
theorem dX4_flow_135 : decode cX4_flow 135 = .ok (.lload_n 3, 1) := by decide +kernel
theorem dX4_flow_136 : decode cX4_flow 136 = .ok (.lreturn, 1) := by decide +kernel
set_option maxRecDepth 20000 in
theorem ggX4_extreme_X4_in : GoodIn wsX4_extreme wsX4_in := goodIn_r _ [5] (by decide +kernel) (by decide +kernel)
set_option maxRecDepth 20000 in
theorem gX4_extreme_X4_in : GoodIn wsX4_extreme (va_wsS RX4 43 yX4_in wsX4_in) := goodIn_app (goodIn_of _ (by decide +kernel)) ggX4_extreme_X4_in
set_option maxRecDepth 20000 in
theorem ggX4_extreme_X4_weigh : GoodIn wsX4_extreme wsX4_weigh := goodIn_r _ [9, 10, 11, 12, 13, 14, 15, 16, 17, 18, 19, 20, 21, 22, 23] (by decide +kernel) (by decide +kernel)
set_option maxRecDepth 20000 in
theorem gX4_extreme_X4_weigh : GoodIn wsX4_extreme (wsV RX4 37 RX4 yX4_weigh wsX4_weigh) := goodIn_app (goodIn_of _ (by decide +kernel)) ggX4_extreme_X4_weigh
theorem dX4_extreme_0 : decode cX4_extreme 0 = .ok (.iload_n 1, 1) := by decide +kernel
theorem dX4_extreme_1 : decode cX4_extreme 1 = .ok (.i2l, 1) := by decide +kernel
theorem dX4_extreme_2 : decode cX4_extreme 2 = .ok (.lconst 0, 1) := by decide +kernel
theorem dX4_extreme_3 : decode cX4_extreme 3 = .ok (.lconst 1, 1) := by decide +kernel
theorem dX4_extreme_4 : decode cX4_extreme 4 = .ok (.invokestatic 43, 3) := by decide +kernel
theorem dX4_extreme_7 : decode cX4_extreme 7 = .ok (.ifCond .ne 5, 3) := by decide +kernel
theorem dX4_extreme_10 : decode cX4_extreme 10 = .ok (.iconst (-1), 1) := by decide +kernel
theorem dX4_extreme_11 : decode cX4_extreme 11 = .ok (.ireturn, 1) := by decide +kernel
theorem dX4_extreme_12 : decode cX4_extreme 12 = .ok (.iconst 0, 1) := by decide +kernel
theorem dX4_extreme_13 : decode cX4_extreme 13 = .ok (.istore_n 2, 1) := by decide +kernel
theorem dX4_extreme_14 : decode cX4_extreme 14 = .ok (.iconst 1, 1) := by decide +kernel
theorem dX4_extreme_15 : decode cX4_extreme 15 = .ok (.istore_n 3, 1) := by decide +kernel
theorem dX4_extreme_16 : decode cX4_extreme 16 = .ok (.iload_n 3, 1) := by decide +kernel
theorem dX4_extreme_17 : decode cX4_extreme 17 = .ok (.iconst 1, 1) := by decide +kernel
theorem dX4_extreme_18 : decode cX4_extreme 18 = .ok (.aload_n 0, 1) := by decide +kernel
theorem dX4_extreme_19 : decode cX4_extreme 19 = .ok (.getfield 7, 3) := by decide +kernel
theorem dX4_extreme_22 : decode cX4_extreme 22 = .ok (.ishl, 1) := by decide +kernel
theorem dX4_extreme_23 : decode cX4_extreme 23 = .ok (.if_icmp .ge 83, 3) := by decide +kernel
theorem dX4_extreme_26 : decode cX4_extreme 26 = .ok (.iload_n 1, 1) := by decide +kernel
theorem dX4_extreme_27 : decode cX4_extreme 27 = .ok (.ifCond .ne 33, 3) := by decide +kernel
theorem dX4_extreme_30 : decode cX4_extreme 30 = .ok (.aload_n 0, 1) := by decide +kernel
theorem dX4_extreme_31 : decode cX4_extreme 31 = .ok (.aload_n 0, 1) := by decide +kernel
theorem dX4_extreme_32 : decode cX4_extreme 32 = .ok (.getfield 7, 3) := by decide +kernel
theorem dX4_extreme_35 : decode cX4_extreme 35 = .ok (.iload_n 3, 1) := by decide +kernel
theorem dX4_extreme_36 : decode cX4_extreme 36 = .ok (.invokevirtual 37, 3) := by decide +kernel
theorem dX4_extreme_39 : decode cX4_extreme 39 = .ok (.aload_n 0, 1) := by decide +kernel
theorem dX4_extreme_40 : decode cX4_extreme 40 = .ok (.aload_n 0, 1) := by decide +kernel
theorem dX4_extreme_41 : decode cX4_extreme 41 = .ok (.getfield 7, 3) := by decide +kernel
theorem dX4_extreme_44 : decode cX4_extreme 44 = .ok (.iload_n 2, 1) := by decide +kernel
theorem dX4_extreme_45 : decode cX4_extreme 45 = .ok (.invokevirtual 37, 3) := by decide +kernel
theorem dX4_extreme_48 : decode cX4_extreme 48 = .ok (.lcmp, 1) := by decide +kernel
theorem dX4_extreme_49 : decode cX4_extreme 49 = .ok (.ifCond .le 7, 3) := by decide +kernel
theorem dX4_extreme_52 : decode cX4_extreme 52 = .ok (.iconst 1, 1) := by decide +kernel
theorem dX4_extreme_53 : decode cX4_extreme 53 = .ok (.goto 34, 3) := by decide +kernel
theorem dX4_extreme_56 : decode cX4_extreme 56 = .ok (.iconst 0, 1) := by decide +kernel
theorem dX4_extreme_57 : decode cX4_extreme 57 = .ok (.goto 30, 3) := by decide +kernel
theorem dX4_extreme_60 : decode cX4_extreme 60 = .ok (.aload_n 0, 1) := by decide +kernel
theorem dX4_extreme_61 : decode cX4_extreme 61 = .ok (.aload_n 0, 1) := by decide +kernel
theorem dX4_extreme_62 : decode cX4_extreme 62 = .ok (.getfield 7, 3) := by decide +kernel
theorem dX4_extreme_65 : decode cX4_extreme 65 = .ok (.iload_n 3, 1) := by decide +kernel
theorem dX4_extreme_66 : decode cX4_extreme 66 = .ok (.invokevirtual 37, 3) := by decide +kernel
theorem dX4_extreme_69 : decode cX4_extreme 69 = .ok (.aload_n 0, 1) := by decide +kernel
theorem dX4_extreme_70 : decode cX4_extreme 70 = .ok (.aload_n 0, 1) := by decide +kernel
theorem dX4_extreme_71 : decode cX4_extreme 71 = .ok (.getfield 7, 3) := by decide +kernel
theorem dX4_extreme_74 : decode cX4_extreme 74 = .ok (.iload_n 2, 1) := by decide +kernel
theorem dX4_extreme_75 : decode cX4_extreme 75 = .ok (.invokevirtual 37, 3) := by decide +kernel
theorem dX4_extreme_78 : decode cX4_extreme 78 = .ok (.lcmp, 1) := by decide +kernel
theorem dX4_extreme_79 : decode cX4_extreme 79 = .ok (.ifCond .ge 7, 3) := by decide +kernel
theorem dX4_extreme_82 : decode cX4_extreme 82 = .ok (.iconst 1, 1) := by decide +kernel
theorem dX4_extreme_83 : decode cX4_extreme 83 = .ok (.goto 4, 3) := by decide +kernel
theorem dX4_extreme_86 : decode cX4_extreme 86 = .ok (.iconst 0, 1) := by decide +kernel
theorem dX4_extreme_87 : decode cX4_extreme 87 = .ok (.istore 4, 2) := by decide +kernel
theorem dX4_extreme_89 : decode cX4_extreme 89 = .ok (.iload 4, 2) := by decide +kernel
theorem dX4_extreme_91 : decode cX4_extreme 91 = .ok (.ifCond .eq 7, 3) := by decide +kernel
theorem dX4_extreme_94 : decode cX4_extreme 94 = .ok (.iload_n 3, 1) := by decide +kernel
theorem dX4_extreme_95 : decode cX4_extreme 95 = .ok (.goto 4, 3) := by decide +kernel
theorem dX4_extreme_98 : decode cX4_extreme 98 = .ok (.iload_n 2, 1) := by decide +kernel
theorem dX4_extreme_99 : decode cX4_extreme 99 = .ok (.istore_n 2, 1) := by decide +kernel
theorem dX4_extreme_100 : decode cX4_extreme 100 = .ok (.iinc 3 1, 3) := by decide +kernel
theorem dX4_extreme_103 : decode cX4_extreme 103 = .ok (.goto (-87), 3) := by decide +kernel
theorem dX4_extreme_106 : decode cX4_extreme 106 = .ok (.iload_n 2, 1) := by decide +kernel
theorem dX4_extreme_107 : decode cX4_extreme 107 = .ok (.ireturn, 1) := by decide +kernel
theorem dX4_bits_0 : decode cX4_bits 0 = .ok (.iconst 0, 1) := by decide +kernel
theorem dX4_bits_1 : decode cX4_bits 1 = .ok (.istore_n 1, 1) := by decide +kernel
theorem dX4_bits_2 : decode cX4_bits 2 = .ok (.iconst 0, 1) := by decide +kernel
theorem dX4_bits_3 : decode cX4_bits 3 = .ok (.istore_n 2, 1) := by decide +kernel
theorem dX4_bits_4 : decode cX4_bits 4 = .ok (.iload_n 2, 1) := by decide +kernel
theorem dX4_bits_5 : decode cX4_bits 5 = .ok (.bipush 8, 2) := by decide +kernel
theorem dX4_bits_7 : decode cX4_bits 7 = .ok (.if_icmp .ge 17, 3) := by decide +kernel
theorem dX4_bits_10 : decode cX4_bits 10 = .ok (.iload_n 1, 1) := by decide +kernel
theorem dX4_bits_11 : decode cX4_bits 11 = .ok (.iload_n 0, 1) := by decide +kernel
theorem dX4_bits_12 : decode cX4_bits 12 = .ok (.iload_n 2, 1) := by decide +kernel
theorem dX4_bits_13 : decode cX4_bits 13 = .ok (.ishr, 1) := by decide +kernel
theorem dX4_bits_14 : decode cX4_bits 14 = .ok (.iconst 1, 1) := by decide +kernel
theorem dX4_bits_15 : decode cX4_bits 15 = .ok (.iand, 1) := by decide +kernel
theorem dX4_bits_16 : decode cX4_bits 16 = .ok (.iadd, 1) := by decide +kernel
theorem dX4_bits_17 : decode cX4_bits 17 = .ok (.istore_n 1, 1) := by decide +kernel
theorem dX4_bits_18 : decode cX4_bits 18 = .ok (.iinc 2 1, 3) := by decide +kernel
theorem dX4_bits_21 : decode cX4_bits 21 = .ok (.goto (-17), 3) := by decide +kernel
theorem dX4_bits_24 : decode cX4_bits 24 = .ok (.iload_n 1, 1) := by decide +kernel
theorem dX4_bits_25 : decode cX4_bits 25 = .ok (.ireturn, 1) := by decide +kernel
theorem dX4_queued_0 : decode cX4_queued 0 = .ok (.iconst 0, 1) := by decide +kernel
theorem dX4_queued_1 : decode cX4_queued 1 = .ok (.istore_n 3, 1) := by decide +kernel
theorem dX4_queued_2 : decode cX4_queued 2 = .ok (.iconst 0, 1) := by decide +kernel
theorem dX4_queued_3 : decode cX4_queued 3 = .ok (.istore 4, 2) := by decide +kernel
theorem dX4_queued_5 : decode cX4_queued 5 = .ok (.iload 4, 2) := by decide +kernel
theorem dX4_queued_7 : decode cX4_queued 7 = .ok (.iload_n 0, 1) := by decide +kernel
theorem dX4_queued_8 : decode cX4_queued 8 = .ok (.if_icmp .ge 63, 3) := by decide +kernel
theorem dX4_queued_11 : decode cX4_queued 11 = .ok (.iload_n 1, 1) := by decide +kernel
theorem dX4_queued_12 : decode cX4_queued 12 = .ok (.iload 4, 2) := by decide +kernel
theorem dX4_queued_14 : decode cX4_queued 14 = .ok (.ishr, 1) := by decide +kernel
theorem dX4_queued_15 : decode cX4_queued 15 = .ok (.iconst 1, 1) := by decide +kernel
theorem dX4_queued_16 : decode cX4_queued 16 = .ok (.iand, 1) := by decide +kernel
theorem dX4_queued_17 : decode cX4_queued 17 = .ok (.iconst 1, 1) := by decide +kernel
theorem dX4_queued_18 : decode cX4_queued 18 = .ok (.if_icmp .ne 47, 3) := by decide +kernel
theorem dX4_queued_21 : decode cX4_queued 21 = .ok (.iload 4, 2) := by decide +kernel
theorem dX4_queued_23 : decode cX4_queued 23 = .ok (.istore 5, 2) := by decide +kernel
theorem dX4_queued_25 : decode cX4_queued 25 = .ok (.iload_n 2, 1) := by decide +kernel
theorem dX4_queued_26 : decode cX4_queued 26 = .ok (.iload_n 3, 1) := by decide +kernel
theorem dX4_queued_27 : decode cX4_queued 27 = .ok (.iconst (-1), 1) := by decide +kernel
theorem dX4_queued_28 : decode cX4_queued 28 = .ok (.ixor, 1) := by decide +kernel
theorem dX4_queued_29 : decode cX4_queued 29 = .ok (.iand, 1) := by decide +kernel
theorem dX4_queued_30 : decode cX4_queued 30 = .ok (.iload 5, 2) := by decide +kernel
theorem dX4_queued_32 : decode cX4_queued 32 = .ok (.ishr, 1) := by decide +kernel
theorem dX4_queued_33 : decode cX4_queued 33 = .ok (.iconst 1, 1) := by decide +kernel
theorem dX4_queued_34 : decode cX4_queued 34 = .ok (.iand, 1) := by decide +kernel
theorem dX4_queued_35 : decode cX4_queued 35 = .ok (.ifCond .ne 23, 3) := by decide +kernel
theorem dX4_queued_38 : decode cX4_queued 38 = .ok (.iload 5, 2) := by decide +kernel
theorem dX4_queued_40 : decode cX4_queued 40 = .ok (.ifCond .ne 9, 3) := by decide +kernel
theorem dX4_queued_43 : decode cX4_queued 43 = .ok (.iload_n 0, 1) := by decide +kernel
theorem dX4_queued_44 : decode cX4_queued 44 = .ok (.iconst 1, 1) := by decide +kernel
theorem dX4_queued_45 : decode cX4_queued 45 = .ok (.isub, 1) := by decide +kernel
theorem dX4_queued_46 : decode cX4_queued 46 = .ok (.goto 7, 3) := by decide +kernel
theorem dX4_queued_49 : decode cX4_queued 49 = .ok (.iload 5, 2) := by decide +kernel
theorem dX4_queued_51 : decode cX4_queued 51 = .ok (.iconst 1, 1) := by decide +kernel
theorem dX4_queued_52 : decode cX4_queued 52 = .ok (.isub, 1) := by decide +kernel
theorem dX4_queued_53 : decode cX4_queued 53 = .ok (.istore 5, 2) := by decide +kernel
theorem dX4_queued_55 : decode cX4_queued 55 = .ok (.goto (-30), 3) := by decide +kernel
theorem dX4_queued_58 : decode cX4_queued 58 = .ok (.iload_n 3, 1) := by decide +kernel
theorem dX4_queued_59 : decode cX4_queued 59 = .ok (.iconst 1, 1) := by decide +kernel
theorem dX4_queued_60 : decode cX4_queued 60 = .ok (.iload 5, 2) := by decide +kernel
theorem dX4_queued_62 : decode cX4_queued 62 = .ok (.ishl, 1) := by decide +kernel
theorem dX4_queued_63 : decode cX4_queued 63 = .ok (.ior, 1) := by decide +kernel
theorem dX4_queued_64 : decode cX4_queued 64 = .ok (.istore_n 3, 1) := by decide +kernel
theorem dX4_queued_65 : decode cX4_queued 65 = .ok (.iinc 4 1, 3) := by decide +kernel
theorem dX4_queued_68 : decode cX4_queued 68 = .ok (.goto (-63), 3) := by decide +kernel
theorem dX4_queued_71 : decode cX4_queued 71 = .ok (.iconst 0, 1) := by decide +kernel
theorem dX4_queued_72 : decode cX4_queued 72 = .ok (.istore 4, 2) := by decide +kernel
theorem dX4_queued_74 : decode cX4_queued 74 = .ok (.iconst 1, 1) := by decide +kernel
theorem dX4_queued_75 : decode cX4_queued 75 = .ok (.istore 5, 2) := by decide +kernel
theorem dX4_queued_77 : decode cX4_queued 77 = .ok (.iconst 0, 1) := by decide +kernel
theorem dX4_queued_78 : decode cX4_queued 78 = .ok (.istore 6, 2) := by decide +kernel
theorem dX4_queued_80 : decode cX4_queued 80 = .ok (.iload 6, 2) := by decide +kernel
theorem dX4_queued_82 : decode cX4_queued 82 = .ok (.iload_n 0, 1) := by decide +kernel
theorem dX4_queued_83 : decode cX4_queued 83 = .ok (.if_icmp .ge 52, 3) := by decide +kernel
theorem dX4_queued_86 : decode cX4_queued 86 = .ok (.iload 4, 2) := by decide +kernel
theorem dX4_queued_88 : decode cX4_queued 88 = .ok (.iload 5, 2) := by decide +kernel
theorem dX4_queued_90 : decode cX4_queued 90 = .ok (.iload_n 3, 1) := by decide +kernel
theorem dX4_queued_91 : decode cX4_queued 91 = .ok (.iload 6, 2) := by decide +kernel
theorem dX4_queued_93 : decode cX4_queued 93 = .ok (.ishr, 1) := by decide +kernel
theorem dX4_queued_94 : decode cX4_queued 94 = .ok (.iconst 1, 1) := by decide +kernel
theorem dX4_queued_95 : decode cX4_queued 95 = .ok (.iand, 1) := by decide +kernel
theorem dX4_queued_96 : decode cX4_queued 96 = .ok (.iconst 1, 1) := by decide +kernel
theorem dX4_queued_97 : decode cX4_queued 97 = .ok (.if_icmp .ne 7, 3) := by decide +kernel
theorem dX4_queued_100 : decode cX4_queued 100 = .ok (.iconst 1, 1) := by decide +kernel
theorem dX4_queued_101 : decode cX4_queued 101 = .ok (.goto 18, 3) := by decide +kernel
theorem dX4_queued_104 : decode cX4_queued 104 = .ok (.iload_n 2, 1) := by decide +kernel
theorem dX4_queued_105 : decode cX4_queued 105 = .ok (.iload 6, 2) := by decide +kernel
theorem dX4_queued_107 : decode cX4_queued 107 = .ok (.ishr, 1) := by decide +kernel
theorem dX4_queued_108 : decode cX4_queued 108 = .ok (.iconst 1, 1) := by decide +kernel
theorem dX4_queued_109 : decode cX4_queued 109 = .ok (.iand, 1) := by decide +kernel
theorem dX4_queued_110 : decode cX4_queued 110 = .ok (.iconst 1, 1) := by decide +kernel
theorem dX4_queued_111 : decode cX4_queued 111 = .ok (.if_icmp .ne 7, 3) := by decide +kernel
theorem dX4_queued_114 : decode cX4_queued 114 = .ok (.iconst 2, 1) := by decide +kernel
theorem dX4_queued_115 : decode cX4_queued 115 = .ok (.goto 4, 3) := by decide +kernel
theorem dX4_queued_118 : decode cX4_queued 118 = .ok (.iconst 0, 1) := by decide +kernel
theorem dX4_queued_119 : decode cX4_queued 119 = .ok (.imul, 1) := by decide +kernel
theorem dX4_queued_120 : decode cX4_queued 120 = .ok (.iadd, 1) := by decide +kernel
theorem dX4_queued_121 : decode cX4_queued 121 = .ok (.istore 4, 2) := by decide +kernel
theorem dX4_queued_123 : decode cX4_queued 123 = .ok (.iload 5, 2) := by decide +kernel
theorem dX4_queued_125 : decode cX4_queued 125 = .ok (.iconst 3, 1) := by decide +kernel
theorem dX4_queued_126 : decode cX4_queued 126 = .ok (.imul, 1) := by decide +kernel
theorem dX4_queued_127 : decode cX4_queued 127 = .ok (.istore 5, 2) := by decide +kernel
theorem dX4_queued_129 : decode cX4_queued 129 = .ok (.iinc 6 1, 3) := by decide +kernel
theorem dX4_queued_132 : decode cX4_queued 132 = .ok (.goto (-52), 3) := by decide +kernel
theorem dX4_queued_135 : decode cX4_queued 135 = .ok (.iload 4, 2) := by decide +kernel
theorem dX4_queued_137 : decode cX4_queued 137 = .ok (.ireturn, 1) := by decide +kernel
set_option maxRecDepth 20000 in
theorem ggX4_queue_X4_in : GoodIn wsX4_queue wsX4_in := goodIn_r _ [6] (by decide +kernel) (by decide +kernel)
set_option maxRecDepth 20000 in
theorem gX4_queue_X4_in : GoodIn wsX4_queue (va_wsS RX4 43 yX4_in wsX4_in) := goodIn_app (goodIn_of _ (by decide +kernel)) ggX4_queue_X4_in
set_option maxRecDepth 20000 in
theorem ggX4_queue_X4_bits : GoodIn wsX4_queue wsX4_bits := goodIn_r _ [9] (by decide +kernel) (by decide +kernel)
set_option maxRecDepth 20000 in
theorem gX4_queue_X4_bits : GoodIn wsX4_queue (va_wsS RX4 71 yX4_bits wsX4_bits) := goodIn_app (goodIn_of _ (by decide +kernel)) ggX4_queue_X4_bits
set_option maxRecDepth 20000 in
theorem ggX4_queue_X4_queued : GoodIn wsX4_queue wsX4_queued := goodIn_r _ [12] (by decide +kernel) (by decide +kernel)
set_option maxRecDepth 20000 in
theorem gX4_queue_X4_queued : GoodIn wsX4_queue (va_wsS RX4 75 yX4_queued wsX4_queued) := goodIn_app (goodIn_of _ (by decide +kernel)) ggX4_queue_X4_queued
theorem dX4_queue_0 : decode cX4_queue 0 = .ok (.iload_n 1, 1) := by decide +kernel
theorem dX4_queue_1 : decode cX4_queue 1 = .ok (.i2l, 1) := by decide +kernel
theorem dX4_queue_2 : decode cX4_queue 2 = .ok (.ldc2_w 69, 3) := by decide +kernel
theorem dX4_queue_5 : decode cX4_queue 5 = .ok (.ldc2_w 41, 3) := by decide +kernel
theorem dX4_queue_8 : decode cX4_queue 8 = .ok (.invokestatic 43, 3) := by decide +kernel
theorem dX4_queue_11 : decode cX4_queue 11 = .ok (.ifCond .eq 52, 3) := by decide +kernel
theorem dX4_queue_14 : decode cX4_queue 14 = .ok (.iload_n 2, 1) := by decide +kernel
theorem dX4_queue_15 : decode cX4_queue 15 = .ok (.i2l, 1) := by decide +kernel
theorem dX4_queue_16 : decode cX4_queue 16 = .ok (.lconst 1, 1) := by decide +kernel
theorem dX4_queue_17 : decode cX4_queue 17 = .ok (.iconst 1, 1) := by decide +kernel
theorem dX4_queue_18 : decode cX4_queue 18 = .ok (.iload_n 1, 1) := by decide +kernel
theorem dX4_queue_19 : decode cX4_queue 19 = .ok (.ishl, 1) := by decide +kernel
theorem dX4_queue_20 : decode cX4_queue 20 = .ok (.iconst 1, 1) := by decide +kernel
theorem dX4_queue_21 : decode cX4_queue 21 = .ok (.isub, 1) := by decide +kernel
theorem dX4_queue_22 : decode cX4_queue 22 = .ok (.i2l, 1) := by decide +kernel
theorem dX4_queue_23 : decode cX4_queue 23 = .ok (.invokestatic 43, 3) := by decide +kernel
theorem dX4_queue_26 : decode cX4_queue 26 = .ok (.ifCond .eq 37, 3) := by decide +kernel
theorem dX4_queue_29 : decode cX4_queue 29 = .ok (.iload_n 3, 1) := by decide +kernel
theorem dX4_queue_30 : decode cX4_queue 30 = .ok (.i2l, 1) := by decide +kernel
theorem dX4_queue_31 : decode cX4_queue 31 = .ok (.lconst 1, 1) := by decide +kernel
theorem dX4_queue_32 : decode cX4_queue 32 = .ok (.iconst 1, 1) := by decide +kernel
theorem dX4_queue_33 : decode cX4_queue 33 = .ok (.iload_n 1, 1) := by decide +kernel
theorem dX4_queue_34 : decode cX4_queue 34 = .ok (.ishl, 1) := by decide +kernel
theorem dX4_queue_35 : decode cX4_queue 35 = .ok (.iconst 1, 1) := by decide +kernel
theorem dX4_queue_36 : decode cX4_queue 36 = .ok (.isub, 1) := by decide +kernel
theorem dX4_queue_37 : decode cX4_queue 37 = .ok (.i2l, 1) := by decide +kernel
theorem dX4_queue_38 : decode cX4_queue 38 = .ok (.invokestatic 43, 3) := by decide +kernel
theorem dX4_queue_41 : decode cX4_queue 41 = .ok (.ifCond .eq 22, 3) := by decide +kernel
theorem dX4_queue_44 : decode cX4_queue 44 = .ok (.iload_n 3, 1) := by decide +kernel
theorem dX4_queue_45 : decode cX4_queue 45 = .ok (.invokestatic 71, 3) := by decide +kernel
theorem dX4_queue_48 : decode cX4_queue 48 = .ok (.iload_n 2, 1) := by decide +kernel
theorem dX4_queue_49 : decode cX4_queue 49 = .ok (.invokestatic 71, 3) := by decide +kernel
theorem dX4_queue_52 : decode cX4_queue 52 = .ok (.if_icmp .le 11, 3) := by decide +kernel
theorem dX4_queue_55 : decode cX4_queue 55 = .ok (.iload_n 3, 1) := by decide +kernel
theorem dX4_queue_56 : decode cX4_queue 56 = .ok (.invokestatic 71, 3) := by decide +kernel
theorem dX4_queue_59 : decode cX4_queue 59 = .ok (.iload_n 1, 1) := by decide +kernel
theorem dX4_queue_60 : decode cX4_queue 60 = .ok (.if_icmp .ne 5, 3) := by decide +kernel
theorem dX4_queue_63 : decode cX4_queue 63 = .ok (.iconst (-1), 1) := by decide +kernel
theorem dX4_queue_64 : decode cX4_queue 64 = .ok (.ireturn, 1) := by decide +kernel
theorem dX4_queue_65 : decode cX4_queue 65 = .ok (.iload_n 1, 1) := by decide +kernel
theorem dX4_queue_66 : decode cX4_queue 66 = .ok (.iload_n 2, 1) := by decide +kernel
theorem dX4_queue_67 : decode cX4_queue 67 = .ok (.iload_n 3, 1) := by decide +kernel
theorem dX4_queue_68 : decode cX4_queue 68 = .ok (.invokestatic 75, 3) := by decide +kernel
theorem dX4_queue_71 : decode cX4_queue 71 = .ok (.ireturn, 1) := by decide +kernel
set_option maxRecDepth 20000 in
theorem ggX4_ways_X4_in : GoodIn wsX4_ways wsX4_in := goodIn_r _ [6] (by decide +kernel) (by decide +kernel)
set_option maxRecDepth 20000 in
theorem gX4_ways_X4_in : GoodIn wsX4_ways (va_wsS RX4 43 yX4_in wsX4_in) := goodIn_app (goodIn_of _ (by decide +kernel)) ggX4_ways_X4_in
set_option maxRecDepth 20000 in
theorem ggX4_ways_X4_bits : GoodIn wsX4_ways wsX4_bits := goodIn_r _ [9] (by decide +kernel) (by decide +kernel)
set_option maxRecDepth 20000 in
theorem gX4_ways_X4_bits : GoodIn wsX4_ways (va_wsS RX4 71 yX4_bits wsX4_bits) := goodIn_app (goodIn_of _ (by decide +kernel)) ggX4_ways_X4_bits
set_option maxRecDepth 20000 in
theorem ggX4_ways_X4_queued : GoodIn wsX4_ways wsX4_queued := goodIn_r _ [12] (by decide +kernel) (by decide +kernel)
set_option maxRecDepth 20000 in
theorem gX4_ways_X4_queued : GoodIn wsX4_ways (va_wsS RX4 75 yX4_queued wsX4_queued) := goodIn_app (goodIn_of _ (by decide +kernel)) ggX4_ways_X4_queued
theorem dX4_ways_0 : decode cX4_ways 0 = .ok (.iload_n 1, 1) := by decide +kernel
theorem dX4_ways_1 : decode cX4_ways 1 = .ok (.i2l, 1) := by decide +kernel
theorem dX4_ways_2 : decode cX4_ways 2 = .ok (.ldc2_w 69, 3) := by decide +kernel
theorem dX4_ways_5 : decode cX4_ways 5 = .ok (.ldc2_w 41, 3) := by decide +kernel
theorem dX4_ways_8 : decode cX4_ways 8 = .ok (.invokestatic 43, 3) := by decide +kernel
theorem dX4_ways_11 : decode cX4_ways 11 = .ok (.ifCond .eq 7, 3) := by decide +kernel
theorem dX4_ways_14 : decode cX4_ways 14 = .ok (.iload_n 2, 1) := by decide +kernel
theorem dX4_ways_15 : decode cX4_ways 15 = .ok (.ifCond .ge 5, 3) := by decide +kernel
theorem dX4_ways_18 : decode cX4_ways 18 = .ok (.iconst (-1), 1) := by decide +kernel
theorem dX4_ways_19 : decode cX4_ways 19 = .ok (.ireturn, 1) := by decide +kernel
theorem dX4_ways_20 : decode cX4_ways 20 = .ok (.iload_n 2, 1) := by decide +kernel
theorem dX4_ways_21 : decode cX4_ways 21 = .ok (.istore_n 3, 1) := by decide +kernel
theorem dX4_ways_22 : decode cX4_ways 22 = .ok (.iconst 0, 1) := by decide +kernel
theorem dX4_ways_23 : decode cX4_ways 23 = .ok (.istore 4, 2) := by decide +kernel
theorem dX4_ways_25 : decode cX4_ways 25 = .ok (.iconst 0, 1) := by decide +kernel
theorem dX4_ways_26 : decode cX4_ways 26 = .ok (.istore 5, 2) := by decide +kernel
theorem dX4_ways_28 : decode cX4_ways 28 = .ok (.iconst 0, 1) := by decide +kernel
theorem dX4_ways_29 : decode cX4_ways 29 = .ok (.istore 6, 2) := by decide +kernel
theorem dX4_ways_31 : decode cX4_ways 31 = .ok (.iload 6, 2) := by decide +kernel
theorem dX4_ways_33 : decode cX4_ways 33 = .ok (.iload_n 1, 1) := by decide +kernel
theorem dX4_ways_34 : decode cX4_ways 34 = .ok (.if_icmp .ge 49, 3) := by decide +kernel
theorem dX4_ways_37 : decode cX4_ways 37 = .ok (.iload 4, 2) := by decide +kernel
theorem dX4_ways_39 : decode cX4_ways 39 = .ok (.iload_n 3, 1) := by decide +kernel
theorem dX4_ways_40 : decode cX4_ways 40 = .ok (.iconst 3, 1) := by decide +kernel
theorem dX4_ways_41 : decode cX4_ways 41 = .ok (.irem, 1) := by decide +kernel
theorem dX4_ways_42 : decode cX4_ways 42 = .ok (.iconst 1, 1) := by decide +kernel
theorem dX4_ways_43 : decode cX4_ways 43 = .ok (.if_icmp .ne 7, 3) := by decide +kernel
theorem dX4_ways_46 : decode cX4_ways 46 = .ok (.iconst 1, 1) := by decide +kernel
theorem dX4_ways_47 : decode cX4_ways 47 = .ok (.goto 4, 3) := by decide +kernel
theorem dX4_ways_50 : decode cX4_ways 50 = .ok (.iconst 0, 1) := by decide +kernel
theorem dX4_ways_51 : decode cX4_ways 51 = .ok (.iadd, 1) := by decide +kernel
theorem dX4_ways_52 : decode cX4_ways 52 = .ok (.istore 4, 2) := by decide +kernel
theorem dX4_ways_54 : decode cX4_ways 54 = .ok (.iload 5, 2) := by decide +kernel
theorem dX4_ways_56 : decode cX4_ways 56 = .ok (.iload_n 3, 1) := by decide +kernel
theorem dX4_ways_57 : decode cX4_ways 57 = .ok (.iconst 3, 1) := by decide +kernel
theorem dX4_ways_58 : decode cX4_ways 58 = .ok (.irem, 1) := by decide +kernel
theorem dX4_ways_59 : decode cX4_ways 59 = .ok (.ifCond .le 10, 3) := by decide +kernel
theorem dX4_ways_62 : decode cX4_ways 62 = .ok (.iconst 1, 1) := by decide +kernel
theorem dX4_ways_63 : decode cX4_ways 63 = .ok (.iload 6, 2) := by decide +kernel
theorem dX4_ways_65 : decode cX4_ways 65 = .ok (.ishl, 1) := by decide +kernel
theorem dX4_ways_66 : decode cX4_ways 66 = .ok (.goto 4, 3) := by decide +kernel
theorem dX4_ways_69 : decode cX4_ways 69 = .ok (.iconst 0, 1) := by decide +kernel
theorem dX4_ways_70 : decode cX4_ways 70 = .ok (.ior, 1) := by decide +kernel
theorem dX4_ways_71 : decode cX4_ways 71 = .ok (.istore 5, 2) := by decide +kernel
theorem dX4_ways_73 : decode cX4_ways 73 = .ok (.iload_n 3, 1) := by decide +kernel
theorem dX4_ways_74 : decode cX4_ways 74 = .ok (.iconst 3, 1) := by decide +kernel
theorem dX4_ways_75 : decode cX4_ways 75 = .ok (.idiv, 1) := by decide +kernel
theorem dX4_ways_76 : decode cX4_ways 76 = .ok (.istore_n 3, 1) := by decide +kernel
theorem dX4_ways_77 : decode cX4_ways 77 = .ok (.iinc 6 1, 3) := by decide +kernel
theorem dX4_ways_80 : decode cX4_ways 80 = .ok (.goto (-49), 3) := by decide +kernel
theorem dX4_ways_83 : decode cX4_ways 83 = .ok (.iload_n 3, 1) := by decide +kernel
theorem dX4_ways_84 : decode cX4_ways 84 = .ok (.ifCond .gt 27, 3) := by decide +kernel
theorem dX4_ways_87 : decode cX4_ways 87 = .ok (.iload 4, 2) := by decide +kernel
theorem dX4_ways_89 : decode cX4_ways 89 = .ok (.ifCond .eq 22, 3) := by decide +kernel
theorem dX4_ways_92 : decode cX4_ways 92 = .ok (.iload 5, 2) := by decide +kernel
theorem dX4_ways_94 : decode cX4_ways 94 = .ok (.invokestatic 71, 3) := by decide +kernel
theorem dX4_ways_97 : decode cX4_ways 97 = .ok (.iload 4, 2) := by decide +kernel
theorem dX4_ways_99 : decode cX4_ways 99 = .ok (.if_icmp .eq 12, 3) := by decide +kernel
theorem dX4_ways_102 : decode cX4_ways 102 = .ok (.iload 5, 2) := by decide +kernel
theorem dX4_ways_104 : decode cX4_ways 104 = .ok (.invokestatic 71, 3) := by decide +kernel
theorem dX4_ways_107 : decode cX4_ways 107 = .ok (.iload_n 1, 1) := by decide +kernel
theorem dX4_ways_108 : decode cX4_ways 108 = .ok (.if_icmp .ne 5, 3) := by decide +kernel
theorem dX4_ways_111 : decode cX4_ways 111 = .ok (.iconst (-1), 1) := by decide +kernel
theorem dX4_ways_112 : decode cX4_ways 112 = .ok (.ireturn, 1) := by decide +kernel
theorem dX4_ways_113 : decode cX4_ways 113 = .ok (.iconst 0, 1) := by decide +kernel
theorem dX4_ways_114 : decode cX4_ways 114 = .ok (.istore 6, 2) := by decide +kernel
theorem dX4_ways_116 : decode cX4_ways 116 = .ok (.iconst 1, 1) := by decide +kernel
theorem dX4_ways_117 : decode cX4_ways 117 = .ok (.istore 7, 2) := by decide +kernel
theorem dX4_ways_119 : decode cX4_ways 119 = .ok (.iload 7, 2) := by decide +kernel
theorem dX4_ways_121 : decode cX4_ways 121 = .ok (.iconst 1, 1) := by decide +kernel
theorem dX4_ways_122 : decode cX4_ways 122 = .ok (.iload_n 1, 1) := by decide +kernel
theorem dX4_ways_123 : decode cX4_ways 123 = .ok (.ishl, 1) := by decide +kernel
theorem dX4_ways_124 : decode cX4_ways 124 = .ok (.if_icmp .ge 41, 3) := by decide +kernel
theorem dX4_ways_127 : decode cX4_ways 127 = .ok (.iload 6, 2) := by decide +kernel
theorem dX4_ways_129 : decode cX4_ways 129 = .ok (.iload 7, 2) := by decide +kernel
theorem dX4_ways_131 : decode cX4_ways 131 = .ok (.invokestatic 71, 3) := by decide +kernel
theorem dX4_ways_134 : decode cX4_ways 134 = .ok (.iload 4, 2) := by decide +kernel
theorem dX4_ways_136 : decode cX4_ways 136 = .ok (.if_icmp .ne 19, 3) := by decide +kernel
theorem dX4_ways_139 : decode cX4_ways 139 = .ok (.iload_n 1, 1) := by decide +kernel
theorem dX4_ways_140 : decode cX4_ways 140 = .ok (.iload 7, 2) := by decide +kernel
theorem dX4_ways_142 : decode cX4_ways 142 = .ok (.iload 5, 2) := by decide +kernel
theorem dX4_ways_144 : decode cX4_ways 144 = .ok (.invokestatic 75, 3) := by decide +kernel
theorem dX4_ways_147 : decode cX4_ways 147 = .ok (.iload_n 2, 1) := by decide +kernel
theorem dX4_ways_148 : decode cX4_ways 148 = .ok (.if_icmp .ne 7, 3) := by decide +kernel
theorem dX4_ways_151 : decode cX4_ways 151 = .ok (.iconst 1, 1) := by decide +kernel
theorem dX4_ways_152 : decode cX4_ways 152 = .ok (.goto 4, 3) := by decide +kernel
theorem dX4_ways_155 : decode cX4_ways 155 = .ok (.iconst 0, 1) := by decide +kernel
theorem dX4_ways_156 : decode cX4_ways 156 = .ok (.iadd, 1) := by decide +kernel
theorem dX4_ways_157 : decode cX4_ways 157 = .ok (.istore 6, 2) := by decide +kernel
theorem dX4_ways_159 : decode cX4_ways 159 = .ok (.iinc 7 1, 3) := by decide +kernel
theorem dX4_ways_162 : decode cX4_ways 162 = .ok (.goto (-43), 3) := by decide +kernel
theorem dX4_ways_165 : decode cX4_ways 165 = .ok (.iload 6, 2) := by decide +kernel
theorem dX4_ways_167 : decode cX4_ways 167 = .ok (.ireturn, 1) := by decide +kernel
set_option maxRecDepth 20000 in
theorem ggX4_step_X4_in : GoodIn wsX4_step wsX4_in := goodIn_r _ [13] (by decide +kernel) (by decide +kernel)
set_option maxRecDepth 20000 in
theorem gX4_step_X4_in : GoodIn wsX4_step (va_wsS RX4 43 yX4_in wsX4_in) := goodIn_app (goodIn_of _ (by decide +kernel)) ggX4_step_X4_in
theorem dX4_step_0 : decode cX4_step 0 = .ok (.iload_n 1, 1) := by decide +kernel
theorem dX4_step_1 : decode cX4_step 1 = .ok (.i2l, 1) := by decide +kernel
theorem dX4_step_2 : decode cX4_step 2 = .ok (.ldc2_w 79, 3) := by decide +kernel
theorem dX4_step_5 : decode cX4_step 5 = .ok (.ldc2_w 81, 3) := by decide +kernel
theorem dX4_step_8 : decode cX4_step 8 = .ok (.invokestatic 43, 3) := by decide +kernel
theorem dX4_step_11 : decode cX4_step 11 = .ok (.ifCond .ne 5, 3) := by decide +kernel
theorem dX4_step_14 : decode cX4_step 14 = .ok (.iconst (-1), 1) := by decide +kernel
theorem dX4_step_15 : decode cX4_step 15 = .ok (.ireturn, 1) := by decide +kernel
theorem dX4_step_16 : decode cX4_step 16 = .ok (.aload_n 0, 1) := by decide +kernel
theorem dX4_step_17 : decode cX4_step 17 = .ok (.iload_n 1, 1) := by decide +kernel
theorem dX4_step_18 : decode cX4_step 18 = .ok (.putfield 83, 3) := by decide +kernel
theorem dX4_step_21 : decode cX4_step 21 = .ok (.aload_n 0, 1) := by decide +kernel
theorem dX4_step_22 : decode cX4_step 22 = .ok (.iload_n 2, 1) := by decide +kernel
theorem dX4_step_23 : decode cX4_step 23 = .ok (.putfield 86, 3) := by decide +kernel
theorem dX4_step_26 : decode cX4_step 26 = .ok (.aload_n 0, 1) := by decide +kernel
theorem dX4_step_27 : decode cX4_step 27 = .ok (.lconst 1, 1) := by decide +kernel
theorem dX4_step_28 : decode cX4_step 28 = .ok (.putfield 23, 3) := by decide +kernel
theorem dX4_step_31 : decode cX4_step 31 = .ok (.aload_n 0, 1) := by decide +kernel
theorem dX4_step_32 : decode cX4_step 32 = .ok (.iconst 0, 1) := by decide +kernel
theorem dX4_step_33 : decode cX4_step 33 = .ok (.putfield 90, 3) := by decide +kernel
theorem dX4_step_36 : decode cX4_step 36 = .ok (.aload_n 0, 1) := by decide +kernel
theorem dX4_step_37 : decode cX4_step 37 = .ok (.iconst 0, 1) := by decide +kernel
theorem dX4_step_38 : decode cX4_step 38 = .ok (.putfield 93, 3) := by decide +kernel
theorem dX4_step_41 : decode cX4_step 41 = .ok (.aload_n 0, 1) := by decide +kernel
theorem dX4_step_42 : decode cX4_step 42 = .ok (.iconst 0, 1) := by decide +kernel
theorem dX4_step_43 : decode cX4_step 43 = .ok (.putfield 96, 3) := by decide +kernel
theorem dX4_step_46 : decode cX4_step 46 = .ok (.iconst 0, 1) := by decide +kernel
theorem dX4_step_47 : decode cX4_step 47 = .ok (.istore_n 3, 1) := by decide +kernel
theorem dX4_step_48 : decode cX4_step 48 = .ok (.iload_n 3, 1) := by decide +kernel
theorem dX4_step_49 : decode cX4_step 49 = .ok (.bipush 30, 2) := by decide +kernel
theorem dX4_step_51 : decode cX4_step 51 = .ok (.if_icmp .ge 16, 3) := by decide +kernel
theorem dX4_step_54 : decode cX4_step 54 = .ok (.aload_n 0, 1) := by decide +kernel
theorem dX4_step_55 : decode cX4_step 55 = .ok (.getfield 27, 3) := by decide +kernel
theorem dX4_step_58 : decode cX4_step 58 = .ok (.iload_n 3, 1) := by decide +kernel
theorem dX4_step_59 : decode cX4_step 59 = .ok (.iconst 0, 1) := by decide +kernel
theorem dX4_step_60 : decode cX4_step 60 = .ok (.iastore, 1) := by decide +kernel
theorem dX4_step_61 : decode cX4_step 61 = .ok (.iinc 3 1, 3) := by decide +kernel
theorem dX4_step_64 : decode cX4_step 64 = .ok (.goto (-16), 3) := by decide +kernel
theorem dX4_step_67 : decode cX4_step 67 = .ok (.iconst 0, 1) := by decide +kernel
theorem dX4_step_68 : decode cX4_step 68 = .ok (.ireturn, 1) := by decide +kernel
set_option maxRecDepth 20000 in
theorem ggX4_isPlace_X4_in : GoodIn wsX4_isPlace wsX4_in := goodIn_r _ [6] (by decide +kernel) (by decide +kernel)
set_option maxRecDepth 20000 in
theorem gX4_isPlace_X4_in : GoodIn wsX4_isPlace (va_wsS RX4 43 yX4_in wsX4_in) := goodIn_app (goodIn_of _ (by decide +kernel)) ggX4_isPlace_X4_in
theorem dX4_isPlace_0 : decode cX4_isPlace 0 = .ok (.iload_n 1, 1) := by decide +kernel
theorem dX4_isPlace_1 : decode cX4_isPlace 1 = .ok (.i2l, 1) := by decide +kernel
theorem dX4_isPlace_2 : decode cX4_isPlace 2 = .ok (.lconst 0, 1) := by decide +kernel
theorem dX4_isPlace_3 : decode cX4_isPlace 3 = .ok (.aload_n 0, 1) := by decide +kernel
theorem dX4_isPlace_4 : decode cX4_isPlace 4 = .ok (.getfield 83, 3) := by decide +kernel
theorem dX4_isPlace_7 : decode cX4_isPlace 7 = .ok (.ifCond .ne 9, 3) := by decide +kernel
theorem dX4_isPlace_10 : decode cX4_isPlace 10 = .ok (.ldc2_w 99, 3) := by decide +kernel
theorem dX4_isPlace_13 : decode cX4_isPlace 13 = .ok (.goto 10, 3) := by decide +kernel
theorem dX4_isPlace_16 : decode cX4_isPlace 16 = .ok (.aload_n 0, 1) := by decide +kernel
theorem dX4_isPlace_17 : decode cX4_isPlace 17 = .ok (.getfield 83, 3) := by decide +kernel
theorem dX4_isPlace_20 : decode cX4_isPlace 20 = .ok (.iconst 1, 1) := by decide +kernel
theorem dX4_isPlace_21 : decode cX4_isPlace 21 = .ok (.isub, 1) := by decide +kernel
theorem dX4_isPlace_22 : decode cX4_isPlace 22 = .ok (.i2l, 1) := by decide +kernel
theorem dX4_isPlace_23 : decode cX4_isPlace 23 = .ok (.invokestatic 43, 3) := by decide +kernel
theorem dX4_isPlace_26 : decode cX4_isPlace 26 = .ok (.ireturn, 1) := by decide +kernel
set_option maxRecDepth 20000 in
theorem ggX4_set_X4_isPlace : GoodIn wsX4_set wsX4_isPlace := goodIn_r _ [8, 2, 9, 10, 11, 7, 12, 13, 14, 15, 16, 17, 18, 19, 20, 21, 22, 23, 24, 25] (by decide +kernel) (by decide +kernel)
set_option maxRecDepth 20000 in
theorem gX4_set_X4_isPlace : GoodIn wsX4_set (wsV RX4 101 RX4 yX4_isPlace wsX4_isPlace) := goodIn_app (goodIn_of _ (by decide +kernel)) ggX4_set_X4_isPlace
set_option maxRecDepth 20000 in
theorem ggX4_set_X4_in : GoodIn wsX4_set wsX4_in := goodIn_r _ [12] (by decide +kernel) (by decide +kernel)
set_option maxRecDepth 20000 in
theorem gX4_set_X4_in : GoodIn wsX4_set (va_wsS RX4 43 yX4_in wsX4_in) := goodIn_app (goodIn_of _ (by decide +kernel)) ggX4_set_X4_in
theorem dX4_set_0 : decode cX4_set 0 = .ok (.aload_n 0, 1) := by decide +kernel
theorem dX4_set_1 : decode cX4_set 1 = .ok (.iload_n 1, 1) := by decide +kernel
theorem dX4_set_2 : decode cX4_set 2 = .ok (.invokevirtual 101, 3) := by decide +kernel
theorem dX4_set_5 : decode cX4_set 5 = .ok (.ifCond .eq 15, 3) := by decide +kernel
theorem dX4_set_8 : decode cX4_set 8 = .ok (.iload_n 2, 1) := by decide +kernel
theorem dX4_set_9 : decode cX4_set 9 = .ok (.i2l, 1) := by decide +kernel
theorem dX4_set_10 : decode cX4_set 10 = .ok (.lconst 0, 1) := by decide +kernel
theorem dX4_set_11 : decode cX4_set 11 = .ok (.ldc2_w 79, 3) := by decide +kernel
theorem dX4_set_14 : decode cX4_set 14 = .ok (.invokestatic 43, 3) := by decide +kernel
theorem dX4_set_17 : decode cX4_set 17 = .ok (.ifCond .ne 5, 3) := by decide +kernel
theorem dX4_set_20 : decode cX4_set 20 = .ok (.iconst (-1), 1) := by decide +kernel
theorem dX4_set_21 : decode cX4_set 21 = .ok (.ireturn, 1) := by decide +kernel
theorem dX4_set_22 : decode cX4_set 22 = .ok (.aload_n 0, 1) := by decide +kernel
theorem dX4_set_23 : decode cX4_set 23 = .ok (.getfield 83, 3) := by decide +kernel
theorem dX4_set_26 : decode cX4_set 26 = .ok (.ifCond .ne 6, 3) := by decide +kernel
theorem dX4_set_29 : decode cX4_set 29 = .ok (.bipush (-2), 2) := by decide +kernel
theorem dX4_set_31 : decode cX4_set 31 = .ok (.ireturn, 1) := by decide +kernel
theorem dX4_set_32 : decode cX4_set 32 = .ok (.aload_n 0, 1) := by decide +kernel
theorem dX4_set_33 : decode cX4_set 33 = .ok (.getfield 27, 3) := by decide +kernel
theorem dX4_set_36 : decode cX4_set 36 = .ok (.iload_n 1, 1) := by decide +kernel
theorem dX4_set_37 : decode cX4_set 37 = .ok (.iaload, 1) := by decide +kernel
theorem dX4_set_38 : decode cX4_set 38 = .ok (.istore_n 3, 1) := by decide +kernel
theorem dX4_set_39 : decode cX4_set 39 = .ok (.aload_n 0, 1) := by decide +kernel
theorem dX4_set_40 : decode cX4_set 40 = .ok (.getfield 27, 3) := by decide +kernel
theorem dX4_set_43 : decode cX4_set 43 = .ok (.iload_n 1, 1) := by decide +kernel
theorem dX4_set_44 : decode cX4_set 44 = .ok (.iload_n 2, 1) := by decide +kernel
theorem dX4_set_45 : decode cX4_set 45 = .ok (.iastore, 1) := by decide +kernel
theorem dX4_set_46 : decode cX4_set 46 = .ok (.iload_n 3, 1) := by decide +kernel
theorem dX4_set_47 : decode cX4_set 47 = .ok (.ireturn, 1) := by decide +kernel
theorem dX4_seed_0 : decode cX4_seed 0 = .ok (.iload_n 1, 1) := by decide +kernel
theorem dX4_seed_1 : decode cX4_seed 1 = .ok (.ifCond .ge 5, 3) := by decide +kernel
theorem dX4_seed_4 : decode cX4_seed 4 = .ok (.iconst (-1), 1) := by decide +kernel
theorem dX4_seed_5 : decode cX4_seed 5 = .ok (.ireturn, 1) := by decide +kernel
theorem dX4_seed_6 : decode cX4_seed 6 = .ok (.aload_n 0, 1) := by decide +kernel
theorem dX4_seed_7 : decode cX4_seed 7 = .ok (.getfield 83, 3) := by decide +kernel
theorem dX4_seed_10 : decode cX4_seed 10 = .ok (.ifCond .ne 6, 3) := by decide +kernel
theorem dX4_seed_13 : decode cX4_seed 13 = .ok (.bipush (-2), 2) := by decide +kernel
theorem dX4_seed_15 : decode cX4_seed 15 = .ok (.ireturn, 1) := by decide +kernel
theorem dX4_seed_16 : decode cX4_seed 16 = .ok (.aload_n 0, 1) := by decide +kernel
theorem dX4_seed_17 : decode cX4_seed 17 = .ok (.iload_n 1, 1) := by decide +kernel
theorem dX4_seed_18 : decode cX4_seed 18 = .ok (.i2l, 1) := by decide +kernel
theorem dX4_seed_19 : decode cX4_seed 19 = .ok (.putfield 23, 3) := by decide +kernel
theorem dX4_seed_22 : decode cX4_seed 22 = .ok (.iconst 0, 1) := by decide +kernel
theorem dX4_seed_23 : decode cX4_seed 23 = .ok (.ireturn, 1) := by decide +kernel
theorem dX4_changes_0 : decode cX4_changes 0 = .ok (.aload_n 0, 1) := by decide +kernel
theorem dX4_changes_1 : decode cX4_changes 1 = .ok (.getfield 27, 3) := by decide +kernel
theorem dX4_changes_4 : decode cX4_changes 4 = .ok (.iload_n 1, 1) := by decide +kernel
theorem dX4_changes_5 : decode cX4_changes 5 = .ok (.iaload, 1) := by decide +kernel
theorem dX4_changes_6 : decode cX4_changes 6 = .ok (.iconst 1, 1) := by decide +kernel
theorem dX4_changes_7 : decode cX4_changes 7 = .ok (.if_icmp .ne 13, 3) := by decide +kernel
theorem dX4_changes_10 : decode cX4_changes 10 = .ok (.aload_n 0, 1) := by decide +kernel
theorem dX4_changes_11 : decode cX4_changes 11 = .ok (.getfield 27, 3) := by decide +kernel
theorem dX4_changes_14 : decode cX4_changes 14 = .ok (.iload_n 2, 1) := by decide +kernel
theorem dX4_changes_15 : decode cX4_changes 15 = .ok (.iaload, 1) := by decide +kernel
theorem dX4_changes_16 : decode cX4_changes 16 = .ok (.iconst 1, 1) := by decide +kernel
theorem dX4_changes_17 : decode cX4_changes 17 = .ok (.if_icmp .ne 22, 3) := by decide +kernel
theorem dX4_changes_20 : decode cX4_changes 20 = .ok (.aload_n 0, 1) := by decide +kernel
theorem dX4_changes_21 : decode cX4_changes 21 = .ok (.getfield 27, 3) := by decide +kernel
theorem dX4_changes_24 : decode cX4_changes 24 = .ok (.iload_n 1, 1) := by decide +kernel
theorem dX4_changes_25 : decode cX4_changes 25 = .ok (.iaload, 1) := by decide +kernel
theorem dX4_changes_26 : decode cX4_changes 26 = .ok (.iconst 2, 1) := by decide +kernel
theorem dX4_changes_27 : decode cX4_changes 27 = .ok (.if_icmp .ne 16, 3) := by decide +kernel
theorem dX4_changes_30 : decode cX4_changes 30 = .ok (.aload_n 0, 1) := by decide +kernel
theorem dX4_changes_31 : decode cX4_changes 31 = .ok (.getfield 27, 3) := by decide +kernel
theorem dX4_changes_34 : decode cX4_changes 34 = .ok (.iload_n 2, 1) := by decide +kernel
theorem dX4_changes_35 : decode cX4_changes 35 = .ok (.iaload, 1) := by decide +kernel
theorem dX4_changes_36 : decode cX4_changes 36 = .ok (.ifCond .ne 7, 3) := by decide +kernel
theorem dX4_changes_39 : decode cX4_changes 39 = .ok (.iconst 1, 1) := by decide +kernel
theorem dX4_changes_40 : decode cX4_changes 40 = .ok (.goto 4, 3) := by decide +kernel
theorem dX4_changes_43 : decode cX4_changes 43 = .ok (.iconst 0, 1) := by decide +kernel
theorem dX4_changes_44 : decode cX4_changes 44 = .ok (.istore_n 3, 1) := by decide +kernel
theorem dX4_changes_45 : decode cX4_changes 45 = .ok (.iload_n 3, 1) := by decide +kernel
theorem dX4_changes_46 : decode cX4_changes 46 = .ok (.ifCond .eq 41, 3) := by decide +kernel
theorem dX4_changes_49 : decode cX4_changes 49 = .ok (.aload_n 0, 1) := by decide +kernel
theorem dX4_changes_50 : decode cX4_changes 50 = .ok (.getfield 27, 3) := by decide +kernel
theorem dX4_changes_53 : decode cX4_changes 53 = .ok (.iload_n 1, 1) := by decide +kernel
theorem dX4_changes_54 : decode cX4_changes 54 = .ok (.iaload, 1) := by decide +kernel
theorem dX4_changes_55 : decode cX4_changes 55 = .ok (.istore 4, 2) := by decide +kernel
theorem dX4_changes_57 : decode cX4_changes 57 = .ok (.aload_n 0, 1) := by decide +kernel
theorem dX4_changes_58 : decode cX4_changes 58 = .ok (.getfield 27, 3) := by decide +kernel
theorem dX4_changes_61 : decode cX4_changes 61 = .ok (.iload_n 1, 1) := by decide +kernel
theorem dX4_changes_62 : decode cX4_changes 62 = .ok (.aload_n 0, 1) := by decide +kernel
theorem dX4_changes_63 : decode cX4_changes 63 = .ok (.getfield 27, 3) := by decide +kernel
theorem dX4_changes_66 : decode cX4_changes 66 = .ok (.iload_n 2, 1) := by decide +kernel
theorem dX4_changes_67 : decode cX4_changes 67 = .ok (.iaload, 1) := by decide +kernel
theorem dX4_changes_68 : decode cX4_changes 68 = .ok (.iastore, 1) := by decide +kernel
theorem dX4_changes_69 : decode cX4_changes 69 = .ok (.aload_n 0, 1) := by decide +kernel
theorem dX4_changes_70 : decode cX4_changes 70 = .ok (.getfield 27, 3) := by decide +kernel
theorem dX4_changes_73 : decode cX4_changes 73 = .ok (.iload_n 2, 1) := by decide +kernel
theorem dX4_changes_74 : decode cX4_changes 74 = .ok (.iload 4, 2) := by decide +kernel
theorem dX4_changes_76 : decode cX4_changes 76 = .ok (.iastore, 1) := by decide +kernel
theorem dX4_changes_77 : decode cX4_changes 77 = .ok (.aload_n 0, 1) := by decide +kernel
theorem dX4_changes_78 : decode cX4_changes 78 = .ok (.dup, 1) := by decide +kernel
theorem dX4_changes_79 : decode cX4_changes 79 = .ok (.getfield 96, 3) := by decide +kernel
theorem dX4_changes_82 : decode cX4_changes 82 = .ok (.iconst 1, 1) := by decide +kernel
theorem dX4_changes_83 : decode cX4_changes 83 = .ok (.iadd, 1) := by decide +kernel
theorem dX4_changes_84 : decode cX4_changes 84 = .ok (.putfield 96, 3) := by decide +kernel
theorem dX4_changes_87 : decode cX4_changes 87 = .ok (.iload_n 3, 1) := by decide +kernel
theorem dX4_changes_88 : decode cX4_changes 88 = .ok (.ireturn, 1) := by decide +kernel
theorem dX4_comes_0 : decode cX4_comes 0 = .ok (.aload_n 0, 1) := by decide +kernel
theorem dX4_comes_1 : decode cX4_comes 1 = .ok (.getfield 27, 3) := by decide +kernel
theorem dX4_comes_4 : decode cX4_comes 4 = .ok (.iconst 0, 1) := by decide +kernel
theorem dX4_comes_5 : decode cX4_comes 5 = .ok (.iaload, 1) := by decide +kernel
theorem dX4_comes_6 : decode cX4_comes 6 = .ok (.iconst 1, 1) := by decide +kernel
theorem dX4_comes_7 : decode cX4_comes 7 = .ok (.if_icmp .ne 5, 3) := by decide +kernel
theorem dX4_comes_10 : decode cX4_comes 10 = .ok (.iconst 0, 1) := by decide +kernel
theorem dX4_comes_11 : decode cX4_comes 11 = .ok (.ireturn, 1) := by decide +kernel
theorem dX4_comes_12 : decode cX4_comes 12 = .ok (.aload_n 0, 1) := by decide +kernel
theorem dX4_comes_13 : decode cX4_comes 13 = .ok (.dup, 1) := by decide +kernel
theorem dX4_comes_14 : decode cX4_comes 14 = .ok (.getfield 93, 3) := by decide +kernel
theorem dX4_comes_17 : decode cX4_comes 17 = .ok (.aload_n 0, 1) := by decide +kernel
theorem dX4_comes_18 : decode cX4_comes 18 = .ok (.getfield 27, 3) := by decide +kernel
theorem dX4_comes_21 : decode cX4_comes 21 = .ok (.iconst 0, 1) := by decide +kernel
theorem dX4_comes_22 : decode cX4_comes 22 = .ok (.iaload, 1) := by decide +kernel
theorem dX4_comes_23 : decode cX4_comes 23 = .ok (.iconst 2, 1) := by decide +kernel
theorem dX4_comes_24 : decode cX4_comes 24 = .ok (.if_icmp .ne 7, 3) := by decide +kernel
theorem dX4_comes_27 : decode cX4_comes 27 = .ok (.iconst 1, 1) := by decide +kernel
theorem dX4_comes_28 : decode cX4_comes 28 = .ok (.goto 4, 3) := by decide +kernel
theorem dX4_comes_31 : decode cX4_comes 31 = .ok (.iconst 0, 1) := by decide +kernel
theorem dX4_comes_32 : decode cX4_comes 32 = .ok (.iadd, 1) := by decide +kernel
theorem dX4_comes_33 : decode cX4_comes 33 = .ok (.putfield 93, 3) := by decide +kernel
theorem dX4_comes_36 : decode cX4_comes 36 = .ok (.aload_n 0, 1) := by decide +kernel
theorem dX4_comes_37 : decode cX4_comes 37 = .ok (.getfield 27, 3) := by decide +kernel
theorem dX4_comes_40 : decode cX4_comes 40 = .ok (.iconst 0, 1) := by decide +kernel
theorem dX4_comes_41 : decode cX4_comes 41 = .ok (.iconst 1, 1) := by decide +kernel
theorem dX4_comes_42 : decode cX4_comes 42 = .ok (.iastore, 1) := by decide +kernel
theorem dX4_comes_43 : decode cX4_comes 43 = .ok (.aload_n 0, 1) := by decide +kernel
theorem dX4_comes_44 : decode cX4_comes 44 = .ok (.dup, 1) := by decide +kernel
theorem dX4_comes_45 : decode cX4_comes 45 = .ok (.getfield 90, 3) := by decide +kernel
theorem dX4_comes_48 : decode cX4_comes 48 = .ok (.iconst 1, 1) := by decide +kernel
theorem dX4_comes_49 : decode cX4_comes 49 = .ok (.iadd, 1) := by decide +kernel
theorem dX4_comes_50 : decode cX4_comes 50 = .ok (.putfield 90, 3) := by decide +kernel
theorem dX4_comes_53 : decode cX4_comes 53 = .ok (.iconst 1, 1) := by decide +kernel
theorem dX4_comes_54 : decode cX4_comes 54 = .ok (.ireturn, 1) := by decide +kernel
theorem dX4_goes_0 : decode cX4_goes 0 = .ok (.aload_n 0, 1) := by decide +kernel
theorem dX4_goes_1 : decode cX4_goes 1 = .ok (.getfield 27, 3) := by decide +kernel
theorem dX4_goes_4 : decode cX4_goes 4 = .ok (.aload_n 0, 1) := by decide +kernel
theorem dX4_goes_5 : decode cX4_goes 5 = .ok (.getfield 83, 3) := by decide +kernel
theorem dX4_goes_8 : decode cX4_goes 8 = .ok (.iconst 1, 1) := by decide +kernel
theorem dX4_goes_9 : decode cX4_goes 9 = .ok (.isub, 1) := by decide +kernel
theorem dX4_goes_10 : decode cX4_goes 10 = .ok (.iaload, 1) := by decide +kernel
theorem dX4_goes_11 : decode cX4_goes 11 = .ok (.iconst 1, 1) := by decide +kernel
theorem dX4_goes_12 : decode cX4_goes 12 = .ok (.if_icmp .eq 5, 3) := by decide +kernel
theorem dX4_goes_15 : decode cX4_goes 15 = .ok (.iconst 0, 1) := by decide +kernel
theorem dX4_goes_16 : decode cX4_goes 16 = .ok (.ireturn, 1) := by decide +kernel
theorem dX4_goes_17 : decode cX4_goes 17 = .ok (.aload_n 0, 1) := by decide +kernel
theorem dX4_goes_18 : decode cX4_goes 18 = .ok (.getfield 27, 3) := by decide +kernel
theorem dX4_goes_21 : decode cX4_goes 21 = .ok (.aload_n 0, 1) := by decide +kernel
theorem dX4_goes_22 : decode cX4_goes 22 = .ok (.getfield 83, 3) := by decide +kernel
theorem dX4_goes_25 : decode cX4_goes 25 = .ok (.iconst 1, 1) := by decide +kernel
theorem dX4_goes_26 : decode cX4_goes 26 = .ok (.isub, 1) := by decide +kernel
theorem dX4_goes_27 : decode cX4_goes 27 = .ok (.iconst 0, 1) := by decide +kernel
theorem dX4_goes_28 : decode cX4_goes 28 = .ok (.iastore, 1) := by decide +kernel
theorem dX4_goes_29 : decode cX4_goes 29 = .ok (.aload_n 0, 1) := by decide +kernel
theorem dX4_goes_30 : decode cX4_goes 30 = .ok (.dup, 1) := by decide +kernel
theorem dX4_goes_31 : decode cX4_goes 31 = .ok (.getfield 93, 3) := by decide +kernel
theorem dX4_goes_34 : decode cX4_goes 34 = .ok (.iconst 1, 1) := by decide +kernel
theorem dX4_goes_35 : decode cX4_goes 35 = .ok (.iadd, 1) := by decide +kernel
theorem dX4_goes_36 : decode cX4_goes 36 = .ok (.putfield 93, 3) := by decide +kernel
theorem dX4_goes_39 : decode cX4_goes 39 = .ok (.iconst 1, 1) := by decide +kernel
