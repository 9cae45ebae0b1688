theorem dX4_goes_40 : decode cX4_goes 40 = .ok (.ireturn, 1) := by decide +kernel
set_option maxRecDepth 20000 in
theorem ggX4_go_X4_in : GoodIn wsX4_go wsX4_in := goodIn_r _ [12] (by decide +kernel) (by decide +kernel)
set_option maxRecDepth 20000 in
theorem gX4_go_X4_in : GoodIn wsX4_go (va_wsS RX4 43 yX4_in wsX4_in) := goodIn_app (goodIn_of _ (by decide +kernel)) ggX4_go_X4_in
set_option maxRecDepth 20000 in
theorem ggX4_go_X4_changes : GoodIn wsX4_go wsX4_changes := goodIn_r _ [16, 17, 18, 29, 30, 31, 32, 33, 34, 35, 36, 37, 38, 39, 40, 41] (by decide +kernel) (by decide +kernel)
set_option maxRecDepth 20000 in
theorem gX4_go_X4_changes : GoodIn wsX4_go (wsV RX4 114 RX4 yX4_changes wsX4_changes) := goodIn_app (goodIn_of _ (by decide +kernel)) ggX4_go_X4_changes
set_option maxRecDepth 20000 in
theorem ggX4_go_X4_comes : GoodIn wsX4_go wsX4_comes := goodIn_r _ [22, 17, 23, 24, 29, 30, 31, 32, 33, 34, 35, 36, 37, 38, 39, 40, 41] (by decide +kernel) (by decide +kernel)
set_option maxRecDepth 20000 in
theorem gX4_go_X4_comes : GoodIn wsX4_go (wsV RX4 118 RX4 yX4_comes wsX4_comes) := goodIn_app (goodIn_of _ (by decide +kernel)) ggX4_go_X4_comes
set_option maxRecDepth 20000 in
theorem ggX4_go_X4_goes : GoodIn wsX4_go wsX4_goes := goodIn_r _ [28, 17, 2, 23, 29, 30, 31, 32, 33, 34, 35, 36, 37, 38, 39, 40, 41] (by decide +kernel) (by decide +kernel)
set_option maxRecDepth 20000 in
theorem gX4_go_X4_goes : GoodIn wsX4_go (wsV RX4 122 RX4 yX4_goes wsX4_goes) := goodIn_app (goodIn_of _ (by decide +kernel)) ggX4_go_X4_goes
theorem dX4_go_0 : decode cX4_go 0 = .ok (.iload_n 1, 1) := by decide +kernel
theorem dX4_go_1 : decode cX4_go 1 = .ok (.i2l, 1) := by decide +kernel
theorem dX4_go_2 : decode cX4_go 2 = .ok (.lconst 1, 1) := by decide +kernel
theorem dX4_go_3 : decode cX4_go 3 = .ok (.ldc2_w 104, 3) := by decide +kernel
theorem dX4_go_6 : decode cX4_go 6 = .ok (.invokestatic 43, 3) := by decide +kernel
theorem dX4_go_9 : decode cX4_go 9 = .ok (.ifCond .ne 5, 3) := by decide +kernel
theorem dX4_go_12 : decode cX4_go 12 = .ok (.iconst (-1), 1) := by decide +kernel
theorem dX4_go_13 : decode cX4_go 13 = .ok (.ireturn, 1) := by decide +kernel
theorem dX4_go_14 : decode cX4_go 14 = .ok (.aload_n 0, 1) := by decide +kernel
theorem dX4_go_15 : decode cX4_go 15 = .ok (.getfield 83, 3) := by decide +kernel
theorem dX4_go_18 : decode cX4_go 18 = .ok (.ifCond .ne 6, 3) := by decide +kernel
theorem dX4_go_21 : decode cX4_go 21 = .ok (.bipush (-2), 2) := by decide +kernel
theorem dX4_go_23 : decode cX4_go 23 = .ok (.ireturn, 1) := by decide +kernel
theorem dX4_go_24 : decode cX4_go 24 = .ok (.iconst 0, 1) := by decide +kernel
theorem dX4_go_25 : decode cX4_go 25 = .ok (.istore_n 2, 1) := by decide +kernel
theorem dX4_go_26 : decode cX4_go 26 = .ok (.iconst 0, 1) := by decide +kernel
theorem dX4_go_27 : decode cX4_go 27 = .ok (.istore_n 3, 1) := by decide +kernel
theorem dX4_go_28 : decode cX4_go 28 = .ok (.iload_n 3, 1) := by decide +kernel
theorem dX4_go_29 : decode cX4_go 29 = .ok (.iload_n 1, 1) := by decide +kernel
theorem dX4_go_30 : decode cX4_go 30 = .ok (.if_icmp .ge 152, 3) := by decide +kernel
theorem dX4_go_33 : decode cX4_go 33 = .ok (.aload_n 0, 1) := by decide +kernel
theorem dX4_go_34 : decode cX4_go 34 = .ok (.aload_n 0, 1) := by decide +kernel
theorem dX4_go_35 : decode cX4_go 35 = .ok (.getfield 23, 3) := by decide +kernel
theorem dX4_go_38 : decode cX4_go 38 = .ok (.ldc2_w 106, 3) := by decide +kernel
theorem dX4_go_41 : decode cX4_go 41 = .ok (.lmul, 1) := by decide +kernel
theorem dX4_go_42 : decode cX4_go 42 = .ok (.ldc2_w 108, 3) := by decide +kernel
theorem dX4_go_45 : decode cX4_go 45 = .ok (.ladd, 1) := by decide +kernel
theorem dX4_go_46 : decode cX4_go 46 = .ok (.ldc2_w 110, 3) := by decide +kernel
theorem dX4_go_49 : decode cX4_go 49 = .ok (.land, 1) := by decide +kernel
theorem dX4_go_50 : decode cX4_go 50 = .ok (.putfield 23, 3) := by decide +kernel
theorem dX4_go_53 : decode cX4_go 53 = .ok (.aload_n 0, 1) := by decide +kernel
theorem dX4_go_54 : decode cX4_go 54 = .ok (.getfield 23, 3) := by decide +kernel
theorem dX4_go_57 : decode cX4_go 57 = .ok (.ldc2_w 112, 3) := by decide +kernel
theorem dX4_go_60 : decode cX4_go 60 = .ok (.ldiv, 1) := by decide +kernel
theorem dX4_go_61 : decode cX4_go 61 = .ok (.aload_n 0, 1) := by decide +kernel
theorem dX4_go_62 : decode cX4_go 62 = .ok (.getfield 83, 3) := by decide +kernel
theorem dX4_go_65 : decode cX4_go 65 = .ok (.iconst 1, 1) := by decide +kernel
theorem dX4_go_66 : decode cX4_go 66 = .ok (.iadd, 1) := by decide +kernel
theorem dX4_go_67 : decode cX4_go 67 = .ok (.i2l, 1) := by decide +kernel
theorem dX4_go_68 : decode cX4_go 68 = .ok (.lrem, 1) := by decide +kernel
theorem dX4_go_69 : decode cX4_go 69 = .ok (.l2i, 1) := by decide +kernel
theorem dX4_go_70 : decode cX4_go 70 = .ok (.istore 4, 2) := by decide +kernel
theorem dX4_go_72 : decode cX4_go 72 = .ok (.iconst 0, 1) := by decide +kernel
theorem dX4_go_73 : decode cX4_go 73 = .ok (.istore 5, 2) := by decide +kernel
theorem dX4_go_75 : decode cX4_go 75 = .ok (.iload 4, 2) := by decide +kernel
theorem dX4_go_77 : decode cX4_go 77 = .ok (.aload_n 0, 1) := by decide +kernel
theorem dX4_go_78 : decode cX4_go 78 = .ok (.getfield 83, 3) := by decide +kernel
theorem dX4_go_81 : decode cX4_go 81 = .ok (.iconst 1, 1) := by decide +kernel
theorem dX4_go_82 : decode cX4_go 82 = .ok (.isub, 1) := by decide +kernel
theorem dX4_go_83 : decode cX4_go 83 = .ok (.if_icmp .ge 18, 3) := by decide +kernel
theorem dX4_go_86 : decode cX4_go 86 = .ok (.aload_n 0, 1) := by decide +kernel
theorem dX4_go_87 : decode cX4_go 87 = .ok (.iload 4, 2) := by decide +kernel
theorem dX4_go_89 : decode cX4_go 89 = .ok (.iload 4, 2) := by decide +kernel
theorem dX4_go_91 : decode cX4_go 91 = .ok (.iconst 1, 1) := by decide +kernel
theorem dX4_go_92 : decode cX4_go 92 = .ok (.iadd, 1) := by decide +kernel
theorem dX4_go_93 : decode cX4_go 93 = .ok (.invokevirtual 114, 3) := by decide +kernel
theorem dX4_go_96 : decode cX4_go 96 = .ok (.istore 5, 2) := by decide +kernel
theorem dX4_go_98 : decode cX4_go 98 = .ok (.goto 65, 3) := by decide +kernel
theorem dX4_go_101 : decode cX4_go 101 = .ok (.iload 4, 2) := by decide +kernel
theorem dX4_go_103 : decode cX4_go 103 = .ok (.aload_n 0, 1) := by decide +kernel
theorem dX4_go_104 : decode cX4_go 104 = .ok (.getfield 83, 3) := by decide +kernel
theorem dX4_go_107 : decode cX4_go 107 = .ok (.iconst 1, 1) := by decide +kernel
theorem dX4_go_108 : decode cX4_go 108 = .ok (.isub, 1) := by decide +kernel
theorem dX4_go_109 : decode cX4_go 109 = .ok (.if_icmp .ne 33, 3) := by decide +kernel
theorem dX4_go_112 : decode cX4_go 112 = .ok (.aload_n 0, 1) := by decide +kernel
theorem dX4_go_113 : decode cX4_go 113 = .ok (.getfield 86, 3) := by decide +kernel
theorem dX4_go_116 : decode cX4_go 116 = .ok (.ifCond .eq 10, 3) := by decide +kernel
theorem dX4_go_119 : decode cX4_go 119 = .ok (.aload_n 0, 1) := by decide +kernel
theorem dX4_go_120 : decode cX4_go 120 = .ok (.invokevirtual 118, 3) := by decide +kernel
theorem dX4_go_123 : decode cX4_go 123 = .ok (.goto 14, 3) := by decide +kernel
theorem dX4_go_126 : decode cX4_go 126 = .ok (.aload_n 0, 1) := by decide +kernel
theorem dX4_go_127 : decode cX4_go 127 = .ok (.aload_n 0, 1) := by decide +kernel
theorem dX4_go_128 : decode cX4_go 128 = .ok (.getfield 83, 3) := by decide +kernel
theorem dX4_go_131 : decode cX4_go 131 = .ok (.iconst 1, 1) := by decide +kernel
theorem dX4_go_132 : decode cX4_go 132 = .ok (.isub, 1) := by decide +kernel
theorem dX4_go_133 : decode cX4_go 133 = .ok (.iconst 0, 1) := by decide +kernel
theorem dX4_go_134 : decode cX4_go 134 = .ok (.invokevirtual 114, 3) := by decide +kernel
theorem dX4_go_137 : decode cX4_go 137 = .ok (.istore 5, 2) := by decide +kernel
theorem dX4_go_139 : decode cX4_go 139 = .ok (.goto 24, 3) := by decide +kernel
theorem dX4_go_142 : decode cX4_go 142 = .ok (.aload_n 0, 1) := by decide +kernel
theorem dX4_go_143 : decode cX4_go 143 = .ok (.getfield 86, 3) := by decide +kernel
theorem dX4_go_146 : decode cX4_go 146 = .ok (.ifCond .eq 14, 3) := by decide +kernel
theorem dX4_go_149 : decode cX4_go 149 = .ok (.aload_n 0, 1) := by decide +kernel
theorem dX4_go_150 : decode cX4_go 150 = .ok (.invokevirtual 122, 3) := by decide +kernel
theorem dX4_go_153 : decode cX4_go 153 = .ok (.ifCond .eq 7, 3) := by decide +kernel
theorem dX4_go_156 : decode cX4_go 156 = .ok (.iconst 1, 1) := by decide +kernel
theorem dX4_go_157 : decode cX4_go 157 = .ok (.goto 4, 3) := by decide +kernel
theorem dX4_go_160 : decode cX4_go 160 = .ok (.iconst 0, 1) := by decide +kernel
theorem dX4_go_161 : decode cX4_go 161 = .ok (.istore 5, 2) := by decide +kernel
theorem dX4_go_163 : decode cX4_go 163 = .ok (.iload_n 2, 1) := by decide +kernel
theorem dX4_go_164 : decode cX4_go 164 = .ok (.iload 5, 2) := by decide +kernel
theorem dX4_go_166 : decode cX4_go 166 = .ok (.ifCond .eq 7, 3) := by decide +kernel
theorem dX4_go_169 : decode cX4_go 169 = .ok (.iconst 1, 1) := by decide +kernel
theorem dX4_go_170 : decode cX4_go 170 = .ok (.goto 4, 3) := by decide +kernel
theorem dX4_go_173 : decode cX4_go 173 = .ok (.iconst 0, 1) := by decide +kernel
theorem dX4_go_174 : decode cX4_go 174 = .ok (.iadd, 1) := by decide +kernel
theorem dX4_go_175 : decode cX4_go 175 = .ok (.istore_n 2, 1) := by decide +kernel
theorem dX4_go_176 : decode cX4_go 176 = .ok (.iinc 3 1, 3) := by decide +kernel
theorem dX4_go_179 : decode cX4_go 179 = .ok (.goto (-151), 3) := by decide +kernel
theorem dX4_go_182 : decode cX4_go 182 = .ok (.iload_n 2, 1) := by decide +kernel
theorem dX4_go_183 : decode cX4_go 183 = .ok (.ireturn, 1) := by decide +kernel
set_option maxRecDepth 20000 in
theorem ggX4_together_X4_in : GoodIn wsX4_together wsX4_in := goodIn_r _ [12] (by decide +kernel) (by decide +kernel)
set_option maxRecDepth 20000 in
theorem gX4_together_X4_in : GoodIn wsX4_together (va_wsS RX4 43 yX4_in wsX4_in) := goodIn_app (goodIn_of _ (by decide +kernel)) ggX4_together_X4_in
theorem dX4_together_0 : decode cX4_together 0 = .ok (.iload_n 1, 1) := by decide +kernel
theorem dX4_together_1 : decode cX4_together 1 = .ok (.i2l, 1) := by decide +kernel
theorem dX4_together_2 : decode cX4_together 2 = .ok (.lconst 1, 1) := by decide +kernel
theorem dX4_together_3 : decode cX4_together 3 = .ok (.ldc2_w 125, 3) := by decide +kernel
theorem dX4_together_6 : decode cX4_together 6 = .ok (.invokestatic 43, 3) := by decide +kernel
theorem dX4_together_9 : decode cX4_together 9 = .ok (.ifCond .ne 5, 3) := by decide +kernel
theorem dX4_together_12 : decode cX4_together 12 = .ok (.iconst (-1), 1) := by decide +kernel
theorem dX4_together_13 : decode cX4_together 13 = .ok (.ireturn, 1) := by decide +kernel
theorem dX4_together_14 : decode cX4_together 14 = .ok (.aload_n 0, 1) := by decide +kernel
theorem dX4_together_15 : decode cX4_together 15 = .ok (.getfield 83, 3) := by decide +kernel
theorem dX4_together_18 : decode cX4_together 18 = .ok (.ifCond .ne 7, 3) := by decide +kernel
theorem dX4_together_21 : decode cX4_together 21 = .ok (.iconst 1, 1) := by decide +kernel
theorem dX4_together_22 : decode cX4_together 22 = .ok (.goto 4, 3) := by decide +kernel
theorem dX4_together_25 : decode cX4_together 25 = .ok (.iconst 0, 1) := by decide +kernel
theorem dX4_together_26 : decode cX4_together 26 = .ok (.istore_n 2, 1) := by decide +kernel
theorem dX4_together_27 : decode cX4_together 27 = .ok (.iconst 0, 1) := by decide +kernel
theorem dX4_together_28 : decode cX4_together 28 = .ok (.istore_n 3, 1) := by decide +kernel
theorem dX4_together_29 : decode cX4_together 29 = .ok (.iload_n 3, 1) := by decide +kernel
theorem dX4_together_30 : decode cX4_together 30 = .ok (.aload_n 0, 1) := by decide +kernel
theorem dX4_together_31 : decode cX4_together 31 = .ok (.getfield 83, 3) := by decide +kernel
theorem dX4_together_34 : decode cX4_together 34 = .ok (.if_icmp .ge 29, 3) := by decide +kernel
theorem dX4_together_37 : decode cX4_together 37 = .ok (.iload_n 2, 1) := by decide +kernel
theorem dX4_together_38 : decode cX4_together 38 = .ok (.ifCond .ne 13, 3) := by decide +kernel
theorem dX4_together_41 : decode cX4_together 41 = .ok (.aload_n 0, 1) := by decide +kernel
theorem dX4_together_42 : decode cX4_together 42 = .ok (.getfield 27, 3) := by decide +kernel
theorem dX4_together_45 : decode cX4_together 45 = .ok (.iload_n 3, 1) := by decide +kernel
theorem dX4_together_46 : decode cX4_together 46 = .ok (.iaload, 1) := by decide +kernel
theorem dX4_together_47 : decode cX4_together 47 = .ok (.iconst 2, 1) := by decide +kernel
theorem dX4_together_48 : decode cX4_together 48 = .ok (.if_icmp .ne 7, 3) := by decide +kernel
theorem dX4_together_51 : decode cX4_together 51 = .ok (.iconst 1, 1) := by decide +kernel
theorem dX4_together_52 : decode cX4_together 52 = .ok (.goto 4, 3) := by decide +kernel
theorem dX4_together_55 : decode cX4_together 55 = .ok (.iconst 0, 1) := by decide +kernel
theorem dX4_together_56 : decode cX4_together 56 = .ok (.istore_n 2, 1) := by decide +kernel
theorem dX4_together_57 : decode cX4_together 57 = .ok (.iinc 3 1, 3) := by decide +kernel
theorem dX4_together_60 : decode cX4_together 60 = .ok (.goto (-31), 3) := by decide +kernel
theorem dX4_together_63 : decode cX4_together 63 = .ok (.iload_n 2, 1) := by decide +kernel
theorem dX4_together_64 : decode cX4_together 64 = .ok (.ifCond .eq 6, 3) := by decide +kernel
theorem dX4_together_67 : decode cX4_together 67 = .ok (.bipush (-2), 2) := by decide +kernel
theorem dX4_together_69 : decode cX4_together 69 = .ok (.ireturn, 1) := by decide +kernel
theorem dX4_together_70 : decode cX4_together 70 = .ok (.iconst 0, 1) := by decide +kernel
theorem dX4_together_71 : decode cX4_together 71 = .ok (.istore_n 3, 1) := by decide +kernel
theorem dX4_together_72 : decode cX4_together 72 = .ok (.iconst 0, 1) := by decide +kernel
theorem dX4_together_73 : decode cX4_together 73 = .ok (.istore 4, 2) := by decide +kernel
theorem dX4_together_75 : decode cX4_together 75 = .ok (.iload 4, 2) := by decide +kernel
theorem dX4_together_77 : decode cX4_together 77 = .ok (.iload_n 1, 1) := by decide +kernel
theorem dX4_together_78 : decode cX4_together 78 = .ok (.if_icmp .ge 219, 3) := by decide +kernel
theorem dX4_together_81 : decode cX4_together 81 = .ok (.iconst 0, 1) := by decide +kernel
theorem dX4_together_82 : decode cX4_together 82 = .ok (.istore 5, 2) := by decide +kernel
theorem dX4_together_84 : decode cX4_together 84 = .ok (.iload 5, 2) := by decide +kernel
theorem dX4_together_86 : decode cX4_together 86 = .ok (.aload_n 0, 1) := by decide +kernel
theorem dX4_together_87 : decode cX4_together 87 = .ok (.getfield 83, 3) := by decide +kernel
theorem dX4_together_90 : decode cX4_together 90 = .ok (.if_icmp .ge 23, 3) := by decide +kernel
theorem dX4_together_93 : decode cX4_together 93 = .ok (.aload_n 0, 1) := by decide +kernel
theorem dX4_together_94 : decode cX4_together 94 = .ok (.getfield 31, 3) := by decide +kernel
theorem dX4_together_97 : decode cX4_together 97 = .ok (.iload 5, 2) := by decide +kernel
theorem dX4_together_99 : decode cX4_together 99 = .ok (.aload_n 0, 1) := by decide +kernel
theorem dX4_together_100 : decode cX4_together 100 = .ok (.getfield 27, 3) := by decide +kernel
theorem dX4_together_103 : decode cX4_together 103 = .ok (.iload 5, 2) := by decide +kernel
theorem dX4_together_105 : decode cX4_together 105 = .ok (.iaload, 1) := by decide +kernel
theorem dX4_together_106 : decode cX4_together 106 = .ok (.iastore, 1) := by decide +kernel
theorem dX4_together_107 : decode cX4_together 107 = .ok (.iinc 5 1, 3) := by decide +kernel
theorem dX4_together_110 : decode cX4_together 110 = .ok (.goto (-26), 3) := by decide +kernel
theorem dX4_together_113 : decode cX4_together 113 = .ok (.iconst 0, 1) := by decide +kernel
theorem dX4_together_114 : decode cX4_together 114 = .ok (.istore 5, 2) := by decide +kernel
theorem dX4_together_116 : decode cX4_together 116 = .ok (.iload 5, 2) := by decide +kernel
theorem dX4_together_118 : decode cX4_together 118 = .ok (.aload_n 0, 1) := by decide +kernel
theorem dX4_together_119 : decode cX4_together 119 = .ok (.getfield 83, 3) := by decide +kernel
theorem dX4_together_122 : decode cX4_together 122 = .ok (.if_icmp .ge 92, 3) := by decide +kernel
theorem dX4_together_125 : decode cX4_together 125 = .ok (.iload 5, 2) := by decide +kernel
theorem dX4_together_127 : decode cX4_together 127 = .ok (.iconst 1, 1) := by decide +kernel
theorem dX4_together_128 : decode cX4_together 128 = .ok (.iadd, 1) := by decide +kernel
theorem dX4_together_129 : decode cX4_together 129 = .ok (.aload_n 0, 1) := by decide +kernel
theorem dX4_together_130 : decode cX4_together 130 = .ok (.getfield 83, 3) := by decide +kernel
theorem dX4_together_133 : decode cX4_together 133 = .ok (.if_icmp .ne 7, 3) := by decide +kernel
theorem dX4_together_136 : decode cX4_together 136 = .ok (.iconst 0, 1) := by decide +kernel
theorem dX4_together_137 : decode cX4_together 137 = .ok (.goto 7, 3) := by decide +kernel
theorem dX4_together_140 : decode cX4_together 140 = .ok (.iload 5, 2) := by decide +kernel
theorem dX4_together_142 : decode cX4_together 142 = .ok (.iconst 1, 1) := by decide +kernel
theorem dX4_together_143 : decode cX4_together 143 = .ok (.iadd, 1) := by decide +kernel
theorem dX4_together_144 : decode cX4_together 144 = .ok (.istore 6, 2) := by decide +kernel
theorem dX4_together_146 : decode cX4_together 146 = .ok (.aload_n 0, 1) := by decide +kernel
theorem dX4_together_147 : decode cX4_together 147 = .ok (.getfield 31, 3) := by decide +kernel
theorem dX4_together_150 : decode cX4_together 150 = .ok (.iload 5, 2) := by decide +kernel
theorem dX4_together_152 : decode cX4_together 152 = .ok (.iaload, 1) := by decide +kernel
theorem dX4_together_153 : decode cX4_together 153 = .ok (.iconst 1, 1) := by decide +kernel
theorem dX4_together_154 : decode cX4_together 154 = .ok (.if_icmp .ne 54, 3) := by decide +kernel
theorem dX4_together_157 : decode cX4_together 157 = .ok (.aload_n 0, 1) := by decide +kernel
theorem dX4_together_158 : decode cX4_together 158 = .ok (.getfield 31, 3) := by decide +kernel
theorem dX4_together_161 : decode cX4_together 161 = .ok (.iload 6, 2) := by decide +kernel
theorem dX4_together_163 : decode cX4_together 163 = .ok (.iaload, 1) := by decide +kernel
theorem dX4_together_164 : decode cX4_together 164 = .ok (.ifCond .ne 44, 3) := by decide +kernel
theorem dX4_together_167 : decode cX4_together 167 = .ok (.iload 6, 2) := by decide +kernel
theorem dX4_together_169 : decode cX4_together 169 = .ok (.ifCond .gt 10, 3) := by decide +kernel
theorem dX4_together_172 : decode cX4_together 172 = .ok (.aload_n 0, 1) := by decide +kernel
theorem dX4_together_173 : decode cX4_together 173 = .ok (.getfield 86, 3) := by decide +kernel
theorem dX4_together_176 : decode cX4_together 176 = .ok (.ifCond .ne 32, 3) := by decide +kernel
theorem dX4_together_179 : decode cX4_together 179 = .ok (.aload_n 0, 1) := by decide +kernel
theorem dX4_together_180 : decode cX4_together 180 = .ok (.getfield 27, 3) := by decide +kernel
theorem dX4_together_183 : decode cX4_together 183 = .ok (.iload 5, 2) := by decide +kernel
theorem dX4_together_185 : decode cX4_together 185 = .ok (.iconst 0, 1) := by decide +kernel
theorem dX4_together_186 : decode cX4_together 186 = .ok (.iastore, 1) := by decide +kernel
theorem dX4_together_187 : decode cX4_together 187 = .ok (.aload_n 0, 1) := by decide +kernel
theorem dX4_together_188 : decode cX4_together 188 = .ok (.getfield 27, 3) := by decide +kernel
theorem dX4_together_191 : decode cX4_together 191 = .ok (.iload 6, 2) := by decide +kernel
theorem dX4_together_193 : decode cX4_together 193 = .ok (.iconst 1, 1) := by decide +kernel
theorem dX4_together_194 : decode cX4_together 194 = .ok (.iastore, 1) := by decide +kernel
theorem dX4_together_195 : decode cX4_together 195 = .ok (.iinc 3 1, 3) := by decide +kernel
theorem dX4_together_198 : decode cX4_together 198 = .ok (.aload_n 0, 1) := by decide +kernel
theorem dX4_together_199 : decode cX4_together 199 = .ok (.dup, 1) := by decide +kernel
theorem dX4_together_200 : decode cX4_together 200 = .ok (.getfield 96, 3) := by decide +kernel
theorem dX4_together_203 : decode cX4_together 203 = .ok (.iconst 1, 1) := by decide +kernel
theorem dX4_together_204 : decode cX4_together 204 = .ok (.iadd, 1) := by decide +kernel
theorem dX4_together_205 : decode cX4_together 205 = .ok (.putfield 96, 3) := by decide +kernel
theorem dX4_together_208 : decode cX4_together 208 = .ok (.iinc 5 1, 3) := by decide +kernel
theorem dX4_together_211 : decode cX4_together 211 = .ok (.goto (-95), 3) := by decide +kernel
theorem dX4_together_214 : decode cX4_together 214 = .ok (.aload_n 0, 1) := by decide +kernel
theorem dX4_together_215 : decode cX4_together 215 = .ok (.getfield 86, 3) := by decide +kernel
theorem dX4_together_218 : decode cX4_together 218 = .ok (.ifCond .eq 40, 3) := by decide +kernel
theorem dX4_together_221 : decode cX4_together 221 = .ok (.aload_n 0, 1) := by decide +kernel
theorem dX4_together_222 : decode cX4_together 222 = .ok (.getfield 31, 3) := by decide +kernel
theorem dX4_together_225 : decode cX4_together 225 = .ok (.aload_n 0, 1) := by decide +kernel
theorem dX4_together_226 : decode cX4_together 226 = .ok (.getfield 83, 3) := by decide +kernel
theorem dX4_together_229 : decode cX4_together 229 = .ok (.iconst 1, 1) := by decide +kernel
theorem dX4_together_230 : decode cX4_together 230 = .ok (.isub, 1) := by decide +kernel
theorem dX4_together_231 : decode cX4_together 231 = .ok (.iaload, 1) := by decide +kernel
theorem dX4_together_232 : decode cX4_together 232 = .ok (.iconst 1, 1) := by decide +kernel
theorem dX4_together_233 : decode cX4_together 233 = .ok (.if_icmp .ne 25, 3) := by decide +kernel
theorem dX4_together_236 : decode cX4_together 236 = .ok (.aload_n 0, 1) := by decide +kernel
theorem dX4_together_237 : decode cX4_together 237 = .ok (.getfield 27, 3) := by decide +kernel
theorem dX4_together_240 : decode cX4_together 240 = .ok (.aload_n 0, 1) := by decide +kernel
theorem dX4_together_241 : decode cX4_together 241 = .ok (.getfield 83, 3) := by decide +kernel
theorem dX4_together_244 : decode cX4_together 244 = .ok (.iconst 1, 1) := by decide +kernel
theorem dX4_together_245 : decode cX4_together 245 = .ok (.isub, 1) := by decide +kernel
theorem dX4_together_246 : decode cX4_together 246 = .ok (.iconst 0, 1) := by decide +kernel
theorem dX4_together_247 : decode cX4_together 247 = .ok (.iastore, 1) := by decide +kernel
theorem dX4_together_248 : decode cX4_together 248 = .ok (.aload_n 0, 1) := by decide +kernel
theorem dX4_together_249 : decode cX4_together 249 = .ok (.dup, 1) := by decide +kernel
theorem dX4_together_250 : decode cX4_together 250 = .ok (.getfield 93, 3) := by decide +kernel
theorem dX4_together_253 : decode cX4_together 253 = .ok (.iconst 1, 1) := by decide +kernel
theorem dX4_together_254 : decode cX4_together 254 = .ok (.iadd, 1) := by decide +kernel
theorem dX4_together_255 : decode cX4_together 255 = .ok (.putfield 93, 3) := by decide +kernel
theorem dX4_together_258 : decode cX4_together 258 = .ok (.aload_n 0, 1) := by decide +kernel
theorem dX4_together_259 : decode cX4_together 259 = .ok (.getfield 86, 3) := by decide +kernel
theorem dX4_together_262 : decode cX4_together 262 = .ok (.ifCond .eq 29, 3) := by decide +kernel
theorem dX4_together_265 : decode cX4_together 265 = .ok (.aload_n 0, 1) := by decide +kernel
theorem dX4_together_266 : decode cX4_together 266 = .ok (.getfield 31, 3) := by decide +kernel
theorem dX4_together_269 : decode cX4_together 269 = .ok (.iconst 0, 1) := by decide +kernel
theorem dX4_together_270 : decode cX4_together 270 = .ok (.iaload, 1) := by decide +kernel
theorem dX4_together_271 : decode cX4_together 271 = .ok (.ifCond .ne 20, 3) := by decide +kernel
theorem dX4_together_274 : decode cX4_together 274 = .ok (.aload_n 0, 1) := by decide +kernel
theorem dX4_together_275 : decode cX4_together 275 = .ok (.getfield 27, 3) := by decide +kernel
theorem dX4_together_278 : decode cX4_together 278 = .ok (.iconst 0, 1) := by decide +kernel
theorem dX4_together_279 : decode cX4_together 279 = .ok (.iconst 1, 1) := by decide +kernel
theorem dX4_together_280 : decode cX4_together 280 = .ok (.iastore, 1) := by decide +kernel
theorem dX4_together_281 : decode cX4_together 281 = .ok (.aload_n 0, 1) := by decide +kernel
theorem dX4_together_282 : decode cX4_together 282 = .ok (.dup, 1) := by decide +kernel
theorem dX4_together_283 : decode cX4_together 283 = .ok (.getfield 90, 3) := by decide +kernel
theorem dX4_together_286 : decode cX4_together 286 = .ok (.iconst 1, 1) := by decide +kernel
theorem dX4_together_287 : decode cX4_together 287 = .ok (.iadd, 1) := by decide +kernel
theorem dX4_together_288 : decode cX4_together 288 = .ok (.putfield 90, 3) := by decide +kernel
theorem dX4_together_291 : decode cX4_together 291 = .ok (.iinc 4 1, 3) := by decide +kernel
theorem dX4_together_294 : decode cX4_together 294 = .ok (.goto (-219), 3) := by decide +kernel
theorem dX4_together_297 : decode cX4_together 297 = .ok (.iload_n 3, 1) := by decide +kernel
theorem dX4_together_298 : decode cX4_together 298 = .ok (.ireturn, 1) := by decide +kernel
set_option maxRecDepth 20000 in
theorem ggX4_at_X4_isPlace : GoodIn wsX4_at wsX4_isPlace := goodIn_r _ [7, 1, 8, 9, 10, 6, 11, 12, 13, 14, 15, 16, 17, 18, 19, 20, 21, 22, 23, 24] (by decide +kernel) (by decide +kernel)
set_option maxRecDepth 20000 in
theorem gX4_at_X4_isPlace : GoodIn wsX4_at (wsV RX4 101 RX4 yX4_isPlace wsX4_isPlace) := goodIn_app (goodIn_of _ (by decide +kernel)) ggX4_at_X4_isPlace
theorem dX4_at_0 : decode cX4_at 0 = .ok (.aload_n 0, 1) := by decide +kernel
theorem dX4_at_1 : decode cX4_at 1 = .ok (.iload_n 1, 1) := by decide +kernel
theorem dX4_at_2 : decode cX4_at 2 = .ok (.invokevirtual 101, 3) := by decide +kernel
theorem dX4_at_5 : decode cX4_at 5 = .ok (.ifCond .ne 5, 3) := by decide +kernel
theorem dX4_at_8 : decode cX4_at 8 = .ok (.iconst (-1), 1) := by decide +kernel
theorem dX4_at_9 : decode cX4_at 9 = .ok (.ireturn, 1) := by decide +kernel
theorem dX4_at_10 : decode cX4_at 10 = .ok (.aload_n 0, 1) := by decide +kernel
theorem dX4_at_11 : decode cX4_at 11 = .ok (.getfield 83, 3) := by decide +kernel
theorem dX4_at_14 : decode cX4_at 14 = .ok (.ifCond .ne 8, 3) := by decide +kernel
theorem dX4_at_17 : decode cX4_at 17 = .ok (.bipush (-2), 2) := by decide +kernel
theorem dX4_at_19 : decode cX4_at 19 = .ok (.goto 9, 3) := by decide +kernel
theorem dX4_at_22 : decode cX4_at 22 = .ok (.aload_n 0, 1) := by decide +kernel
theorem dX4_at_23 : decode cX4_at 23 = .ok (.getfield 27, 3) := by decide +kernel
theorem dX4_at_26 : decode cX4_at 26 = .ok (.iload_n 1, 1) := by decide +kernel
theorem dX4_at_27 : decode cX4_at 27 = .ok (.iaload, 1) := by decide +kernel
theorem dX4_at_28 : decode cX4_at 28 = .ok (.ireturn, 1) := by decide +kernel
set_option maxRecDepth 20000 in
theorem ggX4_told_X4_in : GoodIn wsX4_told wsX4_in := goodIn_r _ [11] (by decide +kernel) (by decide +kernel)
set_option maxRecDepth 20000 in
theorem gX4_told_X4_in : GoodIn wsX4_told (va_wsS RX4 43 yX4_in wsX4_in) := goodIn_app (goodIn_of _ (by decide +kernel)) ggX4_told_X4_in
theorem dX4_told_0 : decode cX4_told 0 = .ok (.iload_n 1, 1) := by decide +kernel
theorem dX4_told_1 : decode cX4_told 1 = .ok (.i2l, 1) := by decide +kernel
theorem dX4_told_2 : decode cX4_told 2 = .ok (.lconst 0, 1) := by decide +kernel
theorem dX4_told_3 : decode cX4_told 3 = .ok (.ldc2_w 127, 3) := by decide +kernel
theorem dX4_told_6 : decode cX4_told 6 = .ok (.invokestatic 43, 3) := by decide +kernel
theorem dX4_told_9 : decode cX4_told 9 = .ok (.ifCond .ne 5, 3) := by decide +kernel
theorem dX4_told_12 : decode cX4_told 12 = .ok (.iconst (-1), 1) := by decide +kernel
theorem dX4_told_13 : decode cX4_told 13 = .ok (.ireturn, 1) := by decide +kernel
theorem dX4_told_14 : decode cX4_told 14 = .ok (.aload_n 0, 1) := by decide +kernel
theorem dX4_told_15 : decode cX4_told 15 = .ok (.getfield 83, 3) := by decide +kernel
theorem dX4_told_18 : decode cX4_told 18 = .ok (.ifCond .ne 6, 3) := by decide +kernel
theorem dX4_told_21 : decode cX4_told 21 = .ok (.bipush (-2), 2) := by decide +kernel
theorem dX4_told_23 : decode cX4_told 23 = .ok (.ireturn, 1) := by decide +kernel
theorem dX4_told_24 : decode cX4_told 24 = .ok (.iconst 0, 1) := by decide +kernel
theorem dX4_told_25 : decode cX4_told 25 = .ok (.istore_n 2, 1) := by decide +kernel
theorem dX4_told_26 : decode cX4_told 26 = .ok (.iconst 0, 1) := by decide +kernel
theorem dX4_told_27 : decode cX4_told 27 = .ok (.istore_n 3, 1) := by decide +kernel
theorem dX4_told_28 : decode cX4_told 28 = .ok (.iconst 0, 1) := by decide +kernel
theorem dX4_told_29 : decode cX4_told 29 = .ok (.istore 4, 2) := by decide +kernel
theorem dX4_told_31 : decode cX4_told 31 = .ok (.iconst 0, 1) := by decide +kernel
theorem dX4_told_32 : decode cX4_told 32 = .ok (.istore 5, 2) := by decide +kernel
theorem dX4_told_34 : decode cX4_told 34 = .ok (.iload 5, 2) := by decide +kernel
theorem dX4_told_36 : decode cX4_told 36 = .ok (.aload_n 0, 1) := by decide +kernel
theorem dX4_told_37 : decode cX4_told 37 = .ok (.getfield 83, 3) := by decide +kernel
theorem dX4_told_40 : decode cX4_told 40 = .ok (.if_icmp .ge 111, 3) := by decide +kernel
theorem dX4_told_43 : decode cX4_told 43 = .ok (.iload 5, 2) := by decide +kernel
theorem dX4_told_45 : decode cX4_told 45 = .ok (.iconst 1, 1) := by decide +kernel
theorem dX4_told_46 : decode cX4_told 46 = .ok (.iadd, 1) := by decide +kernel
theorem dX4_told_47 : decode cX4_told 47 = .ok (.aload_n 0, 1) := by decide +kernel
theorem dX4_told_48 : decode cX4_told 48 = .ok (.getfield 83, 3) := by decide +kernel
theorem dX4_told_51 : decode cX4_told 51 = .ok (.if_icmp .ne 7, 3) := by decide +kernel
theorem dX4_told_54 : decode cX4_told 54 = .ok (.iconst 0, 1) := by decide +kernel
theorem dX4_told_55 : decode cX4_told 55 = .ok (.goto 7, 3) := by decide +kernel
theorem dX4_told_58 : decode cX4_told 58 = .ok (.iload 5, 2) := by decide +kernel
theorem dX4_told_60 : decode cX4_told 60 = .ok (.iconst 1, 1) := by decide +kernel
theorem dX4_told_61 : decode cX4_told 61 = .ok (.iadd, 1) := by decide +kernel
theorem dX4_told_62 : decode cX4_told 62 = .ok (.istore 6, 2) := by decide +kernel
theorem dX4_told_64 : decode cX4_told 64 = .ok (.iload_n 2, 1) := by decide +kernel
theorem dX4_told_65 : decode cX4_told 65 = .ok (.aload_n 0, 1) := by decide +kernel
theorem dX4_told_66 : decode cX4_told 66 = .ok (.getfield 27, 3) := by decide +kernel
theorem dX4_told_69 : decode cX4_told 69 = .ok (.iload 5, 2) := by decide +kernel
theorem dX4_told_71 : decode cX4_told 71 = .ok (.iaload, 1) := by decide +kernel
theorem dX4_told_72 : decode cX4_told 72 = .ok (.iconst 1, 1) := by decide +kernel
theorem dX4_told_73 : decode cX4_told 73 = .ok (.if_icmp .ne 7, 3) := by decide +kernel
theorem dX4_told_76 : decode cX4_told 76 = .ok (.iconst 1, 1) := by decide +kernel
theorem dX4_told_77 : decode cX4_told 77 = .ok (.goto 4, 3) := by decide +kernel
theorem dX4_told_80 : decode cX4_told 80 = .ok (.iconst 0, 1) := by decide +kernel
theorem dX4_told_81 : decode cX4_told 81 = .ok (.iadd, 1) := by decide +kernel
theorem dX4_told_82 : decode cX4_told 82 = .ok (.istore_n 2, 1) := by decide +kernel
theorem dX4_told_83 : decode cX4_told 83 = .ok (.iload_n 3, 1) := by decide +kernel
theorem dX4_told_84 : decode cX4_told 84 = .ok (.aload_n 0, 1) := by decide +kernel
theorem dX4_told_85 : decode cX4_told 85 = .ok (.getfield 27, 3) := by decide +kernel
theorem dX4_told_88 : decode cX4_told 88 = .ok (.iload 5, 2) := by decide +kernel
theorem dX4_told_90 : decode cX4_told 90 = .ok (.iaload, 1) := by decide +kernel
theorem dX4_told_91 : decode cX4_told 91 = .ok (.iconst 2, 1) := by decide +kernel
theorem dX4_told_92 : decode cX4_told 92 = .ok (.if_icmp .ne 7, 3) := by decide +kernel
theorem dX4_told_95 : decode cX4_told 95 = .ok (.iconst 1, 1) := by decide +kernel
theorem dX4_told_96 : decode cX4_told 96 = .ok (.goto 4, 3) := by decide +kernel
theorem dX4_told_99 : decode cX4_told 99 = .ok (.iconst 0, 1) := by decide +kernel
theorem dX4_told_100 : decode cX4_told 100 = .ok (.iadd, 1) := by decide +kernel
theorem dX4_told_101 : decode cX4_told 101 = .ok (.istore_n 3, 1) := by decide +kernel
theorem dX4_told_102 : decode cX4_told 102 = .ok (.iload 4, 2) := by decide +kernel
theorem dX4_told_104 : decode cX4_told 104 = .ok (.aload_n 0, 1) := by decide +kernel
theorem dX4_told_105 : decode cX4_told 105 = .ok (.getfield 27, 3) := by decide +kernel
theorem dX4_told_108 : decode cX4_told 108 = .ok (.iload 5, 2) := by decide +kernel
theorem dX4_told_110 : decode cX4_told 110 = .ok (.iaload, 1) := by decide +kernel
theorem dX4_told_111 : decode cX4_told 111 = .ok (.iconst 1, 1) := by decide +kernel
theorem dX4_told_112 : decode cX4_told 112 = .ok (.if_icmp .ne 29, 3) := by decide +kernel
theorem dX4_told_115 : decode cX4_told 115 = .ok (.aload_n 0, 1) := by decide +kernel
theorem dX4_told_116 : decode cX4_told 116 = .ok (.getfield 27, 3) := by decide +kernel
theorem dX4_told_119 : decode cX4_told 119 = .ok (.iload 6, 2) := by decide +kernel
theorem dX4_told_121 : decode cX4_told 121 = .ok (.iaload, 1) := by decide +kernel
theorem dX4_told_122 : decode cX4_told 122 = .ok (.ifCond .ne 19, 3) := by decide +kernel
theorem dX4_told_125 : decode cX4_told 125 = .ok (.iload 6, 2) := by decide +kernel
theorem dX4_told_127 : decode cX4_told 127 = .ok (.ifCond .gt 10, 3) := by decide +kernel
theorem dX4_told_130 : decode cX4_told 130 = .ok (.aload_n 0, 1) := by decide +kernel
theorem dX4_told_131 : decode cX4_told 131 = .ok (.getfield 86, 3) := by decide +kernel
theorem dX4_told_134 : decode cX4_told 134 = .ok (.ifCond .ne 7, 3) := by decide +kernel
theorem dX4_told_137 : decode cX4_told 137 = .ok (.iconst 1, 1) := by decide +kernel
theorem dX4_told_138 : decode cX4_told 138 = .ok (.goto 4, 3) := by decide +kernel
theorem dX4_told_141 : decode cX4_told 141 = .ok (.iconst 0, 1) := by decide +kernel
theorem dX4_told_142 : decode cX4_told 142 = .ok (.iadd, 1) := by decide +kernel
theorem dX4_told_143 : decode cX4_told 143 = .ok (.istore 4, 2) := by decide +kernel
theorem dX4_told_145 : decode cX4_told 145 = .ok (.iinc 5 1, 3) := by decide +kernel
theorem dX4_told_148 : decode cX4_told 148 = .ok (.goto (-114), 3) := by decide +kernel
theorem dX4_told_151 : decode cX4_told 151 = .ok (.iload_n 1, 1) := by decide +kernel
theorem dX4_told_152 : decode cX4_told 152 = .ok (.tableswitch 81 0 6 #[44, 49, 62, 67, 72, 77, 79], 44) := by decide +kernel
theorem dX4_told_196 : decode cX4_told 196 = .ok (.aload_n 0, 1) := by decide +kernel
theorem dX4_told_197 : decode cX4_told 197 = .ok (.getfield 83, 3) := by decide +kernel
theorem dX4_told_200 : decode cX4_told 200 = .ok (.ireturn, 1) := by decide +kernel
theorem dX4_told_201 : decode cX4_told 201 = .ok (.aload_n 0, 1) := by decide +kernel
theorem dX4_told_202 : decode cX4_told 202 = .ok (.getfield 86, 3) := by decide +kernel
theorem dX4_told_205 : decode cX4_told 205 = .ok (.ifCond .eq 7, 3) := by decide +kernel
theorem dX4_told_208 : decode cX4_told 208 = .ok (.iconst 1, 1) := by decide +kernel
theorem dX4_told_209 : decode cX4_told 209 = .ok (.goto 4, 3) := by decide +kernel
theorem dX4_told_212 : decode cX4_told 212 = .ok (.iconst 0, 1) := by decide +kernel
theorem dX4_told_213 : decode cX4_told 213 = .ok (.ireturn, 1) := by decide +kernel
theorem dX4_told_214 : decode cX4_told 214 = .ok (.aload_n 0, 1) := by decide +kernel
theorem dX4_told_215 : decode cX4_told 215 = .ok (.getfield 90, 3) := by decide +kernel
theorem dX4_told_218 : decode cX4_told 218 = .ok (.ireturn, 1) := by decide +kernel
theorem dX4_told_219 : decode cX4_told 219 = .ok (.aload_n 0, 1) := by decide +kernel
theorem dX4_told_220 : decode cX4_told 220 = .ok (.getfield 93, 3) := by decide +kernel
theorem dX4_told_223 : decode cX4_told 223 = .ok (.ireturn, 1) := by decide +kernel
theorem dX4_told_224 : decode cX4_told 224 = .ok (.aload_n 0, 1) := by decide +kernel
theorem dX4_told_225 : decode cX4_told 225 = .ok (.getfield 96, 3) := by decide +kernel
theorem dX4_told_228 : decode cX4_told 228 = .ok (.ireturn, 1) := by decide +kernel
theorem dX4_told_229 : decode cX4_told 229 = .ok (.iload_n 2, 1) := by decide +kernel
theorem dX4_told_230 : decode cX4_told 230 = .ok (.ireturn, 1) := by decide +kernel
theorem dX4_told_231 : decode cX4_told 231 = .ok (.iload_n 3, 1) := by decide +kernel
theorem dX4_told_232 : decode cX4_told 232 = .ok (.ireturn, 1) := by decide +kernel
theorem dX4_told_233 : decode cX4_told 233 = .ok (.iload 4, 2) := by decide +kernel
theorem dX4_told_235 : decode cX4_told 235 = .ok (.ireturn, 1) := by decide +kernel
theorem dJ6_bitCount_0f7a4_0 : decode cJ6_bitCount_0f7a4 0 = .ok (.iload_n 0, 1) := by decide +kernel
theorem dJ6_bitCount_0f7a4_1 : decode cJ6_bitCount_0f7a4 1 = .ok (.iload_n 0, 1) := by decide +kernel
theorem dJ6_bitCount_0f7a4_2 : decode cJ6_bitCount_0f7a4 2 = .ok (.iconst 1, 1) := by decide +kernel
theorem dJ6_bitCount_0f7a4_3 : decode cJ6_bitCount_0f7a4 3 = .ok (.iushr, 1) := by decide +kernel
theorem dJ6_bitCount_0f7a4_4 : decode cJ6_bitCount_0f7a4 4 = .ok (.ldc_w 265, 3) := by decide +kernel
theorem dJ6_bitCount_0f7a4_7 : decode cJ6_bitCount_0f7a4 7 = .ok (.iand, 1) := by decide +kernel
theorem dJ6_bitCount_0f7a4_8 : decode cJ6_bitCount_0f7a4 8 = .ok (.isub, 1) := by decide +kernel
theorem dJ6_bitCount_0f7a4_9 : decode cJ6_bitCount_0f7a4 9 = .ok (.istore_n 0, 1) := by decide +kernel
theorem dJ6_bitCount_0f7a4_10 : decode cJ6_bitCount_0f7a4 10 = .ok (.iload_n 0, 1) := by decide +kernel
theorem dJ6_bitCount_0f7a4_11 : decode cJ6_bitCount_0f7a4 11 = .ok (.ldc_w 266, 3) := by decide +kernel
theorem dJ6_bitCount_0f7a4_14 : decode cJ6_bitCount_0f7a4 14 = .ok (.iand, 1) := by decide +kernel
theorem dJ6_bitCount_0f7a4_15 : decode cJ6_bitCount_0f7a4 15 = .ok (.iload_n 0, 1) := by decide +kernel
theorem dJ6_bitCount_0f7a4_16 : decode cJ6_bitCount_0f7a4 16 = .ok (.iconst 2, 1) := by decide +kernel
theorem dJ6_bitCount_0f7a4_17 : decode cJ6_bitCount_0f7a4 17 = .ok (.iushr, 1) := by decide +kernel
theorem dJ6_bitCount_0f7a4_18 : decode cJ6_bitCount_0f7a4 18 = .ok (.ldc_w 266, 3) := by decide +kernel
theorem dJ6_bitCount_0f7a4_21 : decode cJ6_bitCount_0f7a4 21 = .ok (.iand, 1) := by decide +kernel
theorem dJ6_bitCount_0f7a4_22 : decode cJ6_bitCount_0f7a4 22 = .ok (.iadd, 1) := by decide +kernel
theorem dJ6_bitCount_0f7a4_23 : decode cJ6_bitCount_0f7a4 23 = .ok (.istore_n 0, 1) := by decide +kernel
theorem dJ6_bitCount_0f7a4_24 : decode cJ6_bitCount_0f7a4 24 = .ok (.iload_n 0, 1) := by decide +kernel
theorem dJ6_bitCount_0f7a4_25 : decode cJ6_bitCount_0f7a4 25 = .ok (.iload_n 0, 1) := by decide +kernel
theorem dJ6_bitCount_0f7a4_26 : decode cJ6_bitCount_0f7a4 26 = .ok (.iconst 4, 1) := by decide +kernel
theorem dJ6_bitCount_0f7a4_27 : decode cJ6_bitCount_0f7a4 27 = .ok (.iushr, 1) := by decide +kernel
theorem dJ6_bitCount_0f7a4_28 : decode cJ6_bitCount_0f7a4 28 = .ok (.iadd, 1) := by decide +kernel
theorem dJ6_bitCount_0f7a4_29 : decode cJ6_bitCount_0f7a4 29 = .ok (.ldc_w 267, 3) := by decide +kernel
theorem dJ6_bitCount_0f7a4_32 : decode cJ6_bitCount_0f7a4 32 = .ok (.iand, 1) := by decide +kernel
theorem dJ6_bitCount_0f7a4_33 : decode cJ6_bitCount_0f7a4 33 = .ok (.istore_n 0, 1) := by decide +kernel
theorem dJ6_bitCount_0f7a4_34 : decode cJ6_bitCount_0f7a4 34 = .ok (.iload_n 0, 1) := by decide +kernel
theorem dJ6_bitCount_0f7a4_35 : decode cJ6_bitCount_0f7a4 35 = .ok (.iload_n 0, 1) := by decide +kernel
theorem dJ6_bitCount_0f7a4_36 : decode cJ6_bitCount_0f7a4 36 = .ok (.bipush 8, 2) := by decide +kernel
theorem dJ6_bitCount_0f7a4_38 : decode cJ6_bitCount_0f7a4 38 = .ok (.iushr, 1) := by decide +kernel
theorem dJ6_bitCount_0f7a4_39 : decode cJ6_bitCount_0f7a4 39 = .ok (.iadd, 1) := by decide +kernel
theorem dJ6_bitCount_0f7a4_40 : decode cJ6_bitCount_0f7a4 40 = .ok (.istore_n 0, 1) := by decide +kernel
theorem dJ6_bitCount_0f7a4_41 : decode cJ6_bitCount_0f7a4 41 = .ok (.iload_n 0, 1) := by decide +kernel
theorem dJ6_bitCount_0f7a4_42 : decode cJ6_bitCount_0f7a4 42 = .ok (.iload_n 0, 1) := by decide +kernel
theorem dJ6_bitCount_0f7a4_43 : decode cJ6_bitCount_0f7a4 43 = .ok (.bipush 16, 2) := by decide +kernel
theorem dJ6_bitCount_0f7a4_45 : decode cJ6_bitCount_0f7a4 45 = .ok (.iushr, 1) := by decide +kernel
theorem dJ6_bitCount_0f7a4_46 : decode cJ6_bitCount_0f7a4 46 = .ok (.iadd, 1) := by decide +kernel
theorem dJ6_bitCount_0f7a4_47 : decode cJ6_bitCount_0f7a4 47 = .ok (.istore_n 0, 1) := by decide +kernel
theorem dJ6_bitCount_0f7a4_48 : decode cJ6_bitCount_0f7a4 48 = .ok (.iload_n 0, 1) := by decide +kernel
theorem dJ6_bitCount_0f7a4_49 : decode cJ6_bitCount_0f7a4 49 = .ok (.bipush 63, 2) := by decide +kernel
theorem dJ6_bitCount_0f7a4_51 : decode cJ6_bitCount_0f7a4 51 = .ok (.iand, 1) := by decide +kernel
theorem dJ6_bitCount_0f7a4_52 : decode cJ6_bitCount_0f7a4 52 = .ok (.ireturn, 1) := by decide +kernel
set_option maxRecDepth 20000 in
theorem ggL_law_X3_init : GoodIn wsL_law wsX3_init := goodIn_r _ [8, 9, 10, 11, 12, 13, 14, 15, 16, 17, 18, 19, 20, 21, 22, 23, 24, 25, 26, 27, 28, 29, 30, 31, 32, 33, 34, 35, 36, 37, 38, 39, 40, 41, 42, 2, 43, 44, 45, 46, 47, 48, 49, 50, 51, 52, 53, 471, 472, 473, 474, 475, 456, 457, 476, 477, 478, 479, 480, 481, 482, 483] (by decide +kernel) (by decide +kernel)
set_option maxRecDepth 20000 in
theorem gL_law_X3_init : GoodIn wsL_law (wsX3_init) := ggL_law_X3_init
set_option maxRecDepth 20000 in
theorem ggL_law_X4_init : GoodIn wsL_law wsX4_init := goodIn_r _ [56, 57, 10, 11, 58, 59, 60, 24, 61, 62, 63, 64, 65, 66, 67, 68, 5, 69, 70, 71, 72, 73, 458, 459, 460, 461, 462, 463, 464, 465, 466, 467, 468, 469, 470] (by decide +kernel) (by decide +kernel)
set_option maxRecDepth 20000 in
theorem gL_law_X4_init : GoodIn wsL_law (wsX4_init) := ggL_law_X4_init
set_option maxRecDepth 20000 in
theorem ggL_law_X3_row : GoodIn wsL_law wsX3_row := goodIn_r _ [77, 15, 78, 79, 2, 80, 81, 28, 29, 14, 30, 31, 32, 33, 34, 35, 36, 37, 25, 26, 38, 39, 40, 41, 42, 43, 44, 45, 46, 47, 48, 49, 50, 82, 83, 84, 85, 456, 457, 471, 472, 473, 474, 475] (by decide +kernel) (by decide +kernel)
set_option maxRecDepth 20000 in
theorem gL_law_X3_row : GoodIn wsL_law (wsV RL 13 RX3 yX3_row wsX3_row) := goodIn_app (goodIn_of _ (by decide +kernel)) ggL_law_X3_row
set_option maxRecDepth 20000 in
theorem ggL_law_X4_row : GoodIn wsL_law wsX4_row := goodIn_r _ [89, 90, 91, 58, 59, 60, 92, 93, 5, 94, 66, 67, 68, 69, 61, 70, 71, 72, 73, 458, 459, 460, 461, 462, 463, 464, 465, 466, 467, 468, 469, 470] (by decide +kernel) (by decide +kernel)
set_option maxRecDepth 20000 in
theorem gL_law_X4_row : GoodIn wsL_law (wsV RL 17 RX4 yX4_row wsX4_row) := goodIn_app (goodIn_of _ (by decide +kernel)) ggL_law_X4_row
set_option maxRecDepth 20000 in
theorem ggL_law_X3_weight : GoodIn wsL_law wsX3_weight := goodIn_r _ [98, 15, 99, 100, 101, 102, 14, 103, 104, 83, 84, 85, 31, 105, 106, 107, 108, 44, 45, 46, 47, 25, 456, 457, 471, 472, 473, 474, 475] (by decide +kernel) (by decide +kernel)
set_option maxRecDepth 20000 in
theorem gL_law_X3_weight : GoodIn wsL_law (wsV RL 18 RX3 yX3_weight wsX3_weight) := goodIn_app (goodIn_of _ (by decide +kernel)) ggL_law_X3_weight
set_option maxRecDepth 20000 in
theorem ggL_law_X4_weight : GoodIn wsL_law wsX4_weight := goodIn_r _ [112, 58, 113, 114, 115, 116, 5, 117, 92, 93, 94, 70, 71, 72, 73, 61, 458, 459, 460, 461, 462, 463, 464, 465, 466, 467, 468, 469, 470] (by decide +kernel) (by decide +kernel)
set_option maxRecDepth 20000 in
theorem gL_law_X4_weight : GoodIn wsL_law (wsV RL 22 RX4 yX4_weight wsX4_weight) := goodIn_app (goodIn_of _ (by decide +kernel)) ggL_law_X4_weight
set_option maxRecDepth 20000 in
theorem ggL_law_X3_sum : GoodIn wsL_law wsX3_sum := goodIn_r _ [121, 15, 99, 78, 79, 2, 80, 122, 123, 124, 14, 125, 26, 456, 457, 471, 472, 473, 474, 475] (by decide +kernel) (by decide +kernel)
set_option maxRecDepth 20000 in
theorem gL_law_X3_sum : GoodIn wsL_law (wsV RL 23 RX3 yX3_sum wsX3_sum) := goodIn_app (goodIn_of _ (by decide +kernel)) ggL_law_X3_sum
set_option maxRecDepth 20000 in
theorem ggL_law_X4_sum : GoodIn wsL_law wsX4_sum := goodIn_r _ [129, 90, 113, 92, 93, 5, 94, 130, 131, 132, 133, 70, 71, 72, 73, 61, 458, 459, 460, 461, 462, 463, 464, 465, 466, 467, 468, 469, 470] (by decide +kernel) (by decide +kernel)
set_option maxRecDepth 20000 in
theorem gL_law_X4_sum : GoodIn wsL_law (wsV RL 26 RX4 yX4_sum wsX4_sum) := goodIn_app (goodIn_of _ (by decide +kernel)) ggL_law_X4_sum
set_option maxRecDepth 20000 in
theorem ggL_law_X3_chance : GoodIn wsL_law wsX3_chance := goodIn_r _ [137, 15, 99, 100, 101, 102, 14, 103, 104, 83, 84, 85, 31, 78, 79, 2, 80, 105, 106, 107, 108, 44, 45, 46, 47, 25, 138, 139, 140, 141, 122, 123, 124, 125, 26, 142, 143, 144, 145, 146, 147, 456, 457, 471, 472, 473, 474, 475] (by decide +kernel) (by decide +kernel)
set_option maxRecDepth 20000 in
theorem gL_law_X3_chance : GoodIn wsL_law (wsV RL 27 RX3 yX3_chance wsX3_chance) := goodIn_app (goodIn_of _ (by decide +kernel)) ggL_law_X3_chance
set_option maxRecDepth 20000 in
theorem ggL_law_X4_chance : GoodIn wsL_law wsX4_chance := goodIn_r _ [151, 58, 113, 114, 115, 116, 5, 117, 92, 93, 94, 70, 71, 72, 73, 61, 130, 131, 132, 133, 152, 153, 154, 458, 459, 460, 461, 462, 463, 464, 465, 466, 467, 468, 469, 470] (by decide +kernel) (by decide +kernel)
set_option maxRecDepth 20000 in
theorem gL_law_X4_chance : GoodIn wsL_law (wsV RL 31 RX4 yX4_chance wsX4_chance) := goodIn_app (goodIn_of _ (by decide +kernel)) ggL_law_X4_chance
set_option maxRecDepth 20000 in
theorem ggL_law_X3_current : GoodIn wsL_law wsX3_current := goodIn_r _ [158, 99, 15, 78, 79, 2, 80, 138, 139, 140, 14, 141, 31, 122, 123, 124, 125, 26, 142, 143, 144, 145, 146, 147, 456, 457, 471, 472, 473, 474, 475] (by decide +kernel) (by decide +kernel)
set_option maxRecDepth 20000 in
theorem gL_law_X3_current : GoodIn wsL_law (wsV RL 32 RX3 yX3_current wsX3_current) := goodIn_app (goodIn_of _ (by decide +kernel)) ggL_law_X3_current
set_option maxRecDepth 20000 in
theorem ggL_law_X4_current : GoodIn wsL_law wsX4_current := goodIn_r _ [162, 58, 113, 92, 93, 5, 94, 130, 131, 132, 133, 70, 71, 72, 73, 61, 152, 153, 154, 458, 459, 460, 461, 462, 463, 464, 465, 466, 467, 468, 469, 470] (by decide +kernel) (by decide +kernel)
set_option maxRecDepth 20000 in
theorem gL_law_X4_current : GoodIn wsL_law (wsV RL 35 RX4 yX4_current wsX4_current) := goodIn_app (goodIn_of _ (by decide +kernel)) ggL_law_X4_current
set_option maxRecDepth 20000 in
theorem ggL_law_X3_taken : GoodIn wsL_law wsX3_taken := goodIn_r _ [166, 15, 99, 100, 101, 102, 14, 103, 104, 83, 84, 85, 31, 78, 79, 2, 80, 167, 168, 169, 170, 171, 106, 107, 108, 44, 45, 46, 47, 25, 138, 139, 140, 141, 122, 123, 124, 125, 26, 142, 143, 144, 145, 146, 147, 456, 457, 471, 472, 473, 474, 475] (by decide +kernel) (by decide +kernel)
set_option maxRecDepth 20000 in
theorem gL_law_X3_taken : GoodIn wsL_law (wsV RL 36 RX3 yX3_taken wsX3_taken) := goodIn_app (goodIn_of _ (by decide +kernel)) ggL_law_X3_taken
set_option maxRecDepth 20000 in
theorem ggL_law_X4_taken : GoodIn wsL_law wsX4_taken := goodIn_r _ [175, 113, 58, 114, 115, 116, 5, 117, 92, 93, 94, 70, 71, 72, 73, 61, 130, 131, 132, 133, 152, 153, 154, 458, 459, 460, 461, 462, 463, 464, 465, 466, 467, 468, 469, 470] (by decide +kernel) (by decide +kernel)
set_option maxRecDepth 20000 in
theorem gL_law_X4_taken : GoodIn wsL_law (wsV RL 39 RX4 yX4_taken wsX4_taken) := goodIn_app (goodIn_of _ (by decide +kernel)) ggL_law_X4_taken
set_option maxRecDepth 20000 in
theorem ggL_law_X3_flow : GoodIn wsL_law wsX3_flow := goodIn_r _ [179, 15, 99, 100, 101, 102, 14, 103, 104, 83, 84, 85, 31, 78, 79, 2, 80, 180, 181, 182, 183, 42, 43, 171, 106, 107, 108, 44, 45, 46, 47, 25, 184, 185, 186, 187, 33, 188, 189, 190, 191, 32, 192, 193, 194, 195, 196, 197, 198, 199, 456, 457, 471, 472, 473, 474, 475] (by decide +kernel) (by decide +kernel)
set_option maxRecDepth 20000 in
theorem gL_law_X3_flow : GoodIn wsL_law (wsV RL 40 RX3 yX3_flow wsX3_flow) := goodIn_app (goodIn_of _ (by decide +kernel)) ggL_law_X3_flow
set_option maxRecDepth 20000 in
theorem ggL_law_X4_flow : GoodIn wsL_law wsX4_flow := goodIn_r _ [203, 113, 58, 204, 114, 115, 116, 5, 117, 92, 93, 94, 70, 71, 72, 73, 61, 205, 206, 207, 208, 60, 59, 458, 459, 460, 461, 462, 463, 464, 465, 466, 467, 468, 469, 470] (by decide +kernel) (by decide +kernel)
set_option maxRecDepth 20000 in
theorem gL_law_X4_flow : GoodIn wsL_law (wsV RL 43 RX4 yX4_flow wsX4_flow) := goodIn_app (goodIn_of _ (by decide +kernel)) ggL_law_X4_flow
set_option maxRecDepth 20000 in
theorem ggL_law_X3_extreme : GoodIn wsL_law wsX3_extreme := goodIn_r _ [212, 15, 78, 79, 2, 80, 213, 214, 215, 14, 216, 104, 83, 84, 85, 31, 171, 106, 107, 108, 44, 45, 46, 47, 25, 217, 218, 219, 220, 456, 457, 471, 472, 473, 474, 475] (by decide +kernel) (by decide +kernel)
set_option maxRecDepth 20000 in
theorem gL_law_X3_extreme : GoodIn wsL_law (wsV RL 44 RX3 yX3_extreme wsX3_extreme) := goodIn_app (goodIn_of _ (by decide +kernel)) ggL_law_X3_extreme
set_option maxRecDepth 20000 in
theorem ggL_law_X4_extreme : GoodIn wsL_law wsX4_extreme := goodIn_r _ [224, 58, 92, 93, 5, 94, 70, 71, 72, 73, 61, 458, 459, 460, 461, 462, 463, 464, 465, 466, 467, 468, 469, 470] (by decide +kernel) (by decide +kernel)
set_option maxRecDepth 20000 in
theorem gL_law_X4_extreme : GoodIn wsL_law (wsV RL 48 RX4 yX4_extreme wsX4_extreme) := goodIn_app (goodIn_of _ (by decide +kernel)) ggL_law_X4_extreme
set_option maxRecDepth 20000 in
theorem ggL_law_X3_queue : GoodIn wsL_law wsX3_queue := goodIn_r _ [228, 78, 79, 2, 80, 229, 230, 231, 232, 233, 234, 235, 236, 237, 238, 239, 240, 241, 242, 42, 43, 243, 244, 245, 246, 247, 248] (by decide +kernel) (by decide +kernel)
set_option maxRecDepth 20000 in
theorem gL_law_X3_queue : GoodIn wsL_law (wsV RL 49 RX3 yX3_queue wsX3_queue) := goodIn_app (goodIn_of _ (by decide +kernel)) ggL_law_X3_queue
set_option maxRecDepth 20000 in
theorem ggL_law_X4_queue : GoodIn wsL_law wsX4_queue := goodIn_r _ [252, 253, 90, 92, 93, 5, 94, 254, 255, 256, 257, 258, 259] (by decide +kernel) (by decide +kernel)
set_option maxRecDepth 20000 in
theorem gL_law_X4_queue : GoodIn wsL_law (wsV RL 52 RX4 yX4_queue wsX4_queue) := goodIn_app (goodIn_of _ (by decide +kernel)) ggL_law_X4_queue
set_option maxRecDepth 20000 in
theorem ggL_law_X3_ways : GoodIn wsL_law wsX3_ways := goodIn_r _ [263, 78, 79, 2, 80, 264, 265, 231, 266, 267, 268, 269, 270, 271, 272, 233, 234, 235, 236, 237, 238, 239, 273, 241, 242, 42, 43, 243, 244, 245] (by decide +kernel) (by decide +kernel)
set_option maxRecDepth 20000 in
theorem gL_law_X3_ways : GoodIn wsL_law (wsV RL 53 RX3 yX3_ways wsX3_ways) := goodIn_app (goodIn_of _ (by decide +kernel)) ggL_law_X3_ways
set_option maxRecDepth 20000 in
theorem ggL_law_X4_ways : GoodIn wsL_law wsX4_ways := goodIn_r _ [277, 253, 90, 92, 93, 5, 94, 254, 255, 256, 257, 258, 259] (by decide +kernel) (by decide +kernel)
set_option maxRecDepth 20000 in
theorem gL_law_X4_ways : GoodIn wsL_law (wsV RL 57 RX4 yX4_ways wsX4_ways) := goodIn_app (goodIn_of _ (by decide +kernel)) ggL_law_X4_ways
set_option maxRecDepth 20000 in
theorem ggL_law_X3_step : GoodIn wsL_law wsX3_step := goodIn_r _ [281, 19, 78, 79, 2, 80, 282, 283, 284, 18, 285, 286, 287, 288, 289, 290, 291, 292, 293, 456, 457, 476, 477, 478, 479, 480, 481, 482, 483] (by decide +kernel) (by decide +kernel)
set_option maxRecDepth 20000 in
theorem gL_law_X3_step : GoodIn wsL_law (wsV RL 58 RX3 yX3_step wsX3_step) := goodIn_app (goodIn_of _ (by decide +kernel)) ggL_law_X3_step
set_option maxRecDepth 20000 in
theorem ggL_law_X4_step : GoodIn wsL_law wsX4_step := goodIn_r _ [297, 298, 299, 300, 301, 62, 302, 303, 304, 64, 92, 93, 5, 94, 458, 459, 460, 461, 462, 463, 464, 465, 466, 467, 468, 469, 470] (by decide +kernel) (by decide +kernel)
set_option maxRecDepth 20000 in
theorem gL_law_X4_step : GoodIn wsL_law (wsV RL 62 RX4 yX4_step wsX4_step) := goodIn_app (goodIn_of _ (by decide +kernel)) ggL_law_X4_step
set_option maxRecDepth 20000 in
theorem ggL_law_X3_set : GoodIn wsL_law wsX3_set := goodIn_r _ [308, 19, 309, 310, 311, 18, 312, 286, 313, 314, 315, 316, 78, 79, 2, 80, 317, 318, 319, 320, 321, 288, 289, 42, 43, 322, 323, 324, 325, 456, 457, 476, 477, 478, 479, 480, 481, 482, 483] (by decide +kernel) (by decide +kernel)
set_option maxRecDepth 20000 in
theorem gL_law_X3_set : GoodIn wsL_law (wsV RL 63 RX3 yX3_set wsX3_set) := goodIn_app (goodIn_of _ (by decide +kernel)) ggL_law_X3_set
set_option maxRecDepth 20000 in
theorem ggL_law_X4_set : GoodIn wsL_law wsX4_set := goodIn_r _ [329, 298, 300, 64, 330, 331, 332, 5, 333, 334, 92, 93, 94, 458, 459, 460, 461, 462, 463, 464, 465, 466, 467, 468, 469, 470] (by decide +kernel) (by decide +kernel)
set_option maxRecDepth 20000 in
theorem gL_law_X4_set : GoodIn wsL_law (wsV RL 66 RX4 yX4_set wsX4_set) := goodIn_app (goodIn_of _ (by decide +kernel)) ggL_law_X4_set
set_option maxRecDepth 20000 in
theorem ggL_law_X3_seed : GoodIn wsL_law wsX3_seed := goodIn_r _ [338, 19, 317, 314, 315, 18, 316, 286, 339, 340, 341, 342, 290, 456, 457, 476, 477, 478, 479, 480, 481, 482, 483] (by decide +kernel) (by decide +kernel)
set_option maxRecDepth 20000 in
theorem gL_law_X3_seed : GoodIn wsL_law (wsV RL 67 RX3 yX3_seed wsX3_seed) := goodIn_app (goodIn_of _ (by decide +kernel)) ggL_law_X3_seed
set_option maxRecDepth 20000 in
theorem ggL_law_X4_seed : GoodIn wsL_law wsX4_seed := goodIn_r _ [346, 300, 62, 458, 459, 460, 461, 462, 463, 464, 465, 466, 467, 468, 469, 470] (by decide +kernel) (by decide +kernel)
set_option maxRecDepth 20000 in
theorem gL_law_X4_seed : GoodIn wsL_law (wsV RL 70 RX4 yX4_seed wsX4_seed) := goodIn_app (goodIn_of _ (by decide +kernel)) ggL_law_X4_seed
set_option maxRecDepth 20000 in
theorem ggL_law_X3_go : GoodIn wsL_law wsX3_go := goodIn_r _ [350, 19, 78, 79, 2, 80, 317, 314, 315, 18, 316, 286, 351, 352, 353, 354, 355, 356, 357, 358, 290, 359, 360, 361, 362, 363, 364, 287, 365, 366, 367, 368, 293, 369, 319, 320, 321, 288, 289, 42, 43, 370, 323, 324, 325, 371, 372, 373, 374, 292, 291, 375, 376, 377, 378, 456, 457, 476, 477, 478, 479, 480, 481, 482, 483] (by decide +kernel) (by decide +kernel)
set_option maxRecDepth 20000 in
theorem gL_law_X3_go : GoodIn wsL_law (wsV RL 71 RX3 yX3_go wsX3_go) := goodIn_app (goodIn_of _ (by decide +kernel)) ggL_law_X3_go
set_option maxRecDepth 20000 in
theorem ggL_law_X4_go : GoodIn wsL_law wsX4_go := goodIn_r _ [382, 383, 300, 62, 384, 385, 386, 387, 301, 92, 93, 5, 94, 388, 389, 390, 391, 64, 304, 392, 393, 394, 395, 303, 302, 396, 397, 398, 399, 458, 459, 460, 461, 462, 463, 464, 465, 466, 467, 468, 469, 470] (by decide +kernel) (by decide +kernel)
set_option maxRecDepth 20000 in
theorem gL_law_X4_go : GoodIn wsL_law (wsV RL 74 RX4 yX4_go wsX4_go) := goodIn_app (goodIn_of _ (by decide +kernel)) ggL_law_X4_go
set_option maxRecDepth 20000 in
theorem ggL_law_X3_together : GoodIn wsL_law wsX3_together := goodIn_r _ [403, 19, 78, 79, 2, 80, 317, 314, 315, 18, 316, 286, 404, 405, 406, 407, 288, 289, 408, 234, 235, 236, 237, 238, 239, 409, 410, 411, 412, 293, 287, 413, 414, 415, 416, 291, 292, 417, 418, 419, 420, 421, 422, 423, 424, 425, 426, 427, 428, 456, 457, 476, 477, 478, 479, 480, 481, 482, 483] (by decide +kernel) (by decide +kernel)
set_option maxRecDepth 20000 in
theorem gL_law_X3_together : GoodIn wsL_law (wsV RL 75 RX3 yX3_together wsX3_together) := goodIn_app (goodIn_of _ (by decide +kernel)) ggL_law_X3_together
set_option maxRecDepth 20000 in
theorem ggL_law_X4_together : GoodIn wsL_law wsX4_together := goodIn_r _ [432, 433, 300, 64, 65, 301, 304, 303, 302, 92, 93, 5, 94, 458, 459, 460, 461, 462, 463, 464, 465, 466, 467, 468, 469, 470] (by decide +kernel) (by decide +kernel)
set_option maxRecDepth 20000 in
theorem gL_law_X4_together : GoodIn wsL_law (wsV RL 78 RX4 yX4_together wsX4_together) := goodIn_app (goodIn_of _ (by decide +kernel)) ggL_law_X4_together
set_option maxRecDepth 20000 in
theorem ggL_law_X3_at : GoodIn wsL_law wsX3_at := goodIn_r _ [437, 19, 309, 310, 311, 18, 312, 286, 313, 314, 315, 316, 317, 318, 319, 320, 321, 288, 289, 42, 2, 43, 456, 457, 476, 477, 478, 479, 480, 481, 482, 483] (by decide +kernel) (by decide +kernel)
set_option maxRecDepth 20000 in
theorem gL_law_X3_at : GoodIn wsL_law (wsV RL 79 RX3 yX3_at wsX3_at) := goodIn_app (goodIn_of _ (by decide +kernel)) ggL_law_X3_at
set_option maxRecDepth 20000 in
theorem ggL_law_X4_at : GoodIn wsL_law wsX4_at := goodIn_r _ [441, 300, 64, 330, 331, 332, 5, 333, 334, 92, 93, 94, 458, 459, 460, 461, 462, 463, 464, 465, 466, 467, 468, 469, 470] (by decide +kernel) (by decide +kernel)
set_option maxRecDepth 20000 in
theorem gL_law_X4_at : GoodIn wsL_law (wsV RL 82 RX4 yX4_at wsX4_at) := goodIn_app (goodIn_of _ (by decide +kernel)) ggL_law_X4_at
set_option maxRecDepth 20000 in
theorem ggL_law_X3_told : GoodIn wsL_law wsX3_told := goodIn_r _ [445, 19, 78, 79, 2, 80, 317, 314, 315, 18, 316, 286, 446, 447, 448, 449, 287, 291, 292, 293, 450, 405, 406, 407, 288, 289, 408, 234, 235, 236, 237, 238, 239, 417, 418, 419, 420, 421, 422, 423, 424, 456, 457, 476, 477, 478, 479, 480, 481, 482, 483] (by decide +kernel) (by decide +kernel)
set_option maxRecDepth 20000 in
theorem gL_law_X3_told : GoodIn wsL_law (wsV RL 83 RX3 yX3_told wsX3_told) := goodIn_app (goodIn_of _ (by decide +kernel)) ggL_law_X3_told
set_option maxRecDepth 20000 in
theorem ggL_law_X4_told : GoodIn wsL_law wsX4_told := goodIn_r _ [454, 455, 300, 64, 301, 302, 303, 304, 92, 93, 5, 94, 458, 459, 460, 461, 462, 463, 464, 465, 466, 467, 468, 469, 470] (by decide +kernel) (by decide +kernel)
set_option maxRecDepth 20000 in
theorem gL_law_X4_told : GoodIn wsL_law (wsV RL 86 RX4 yX4_told wsX4_told) := goodIn_app (goodIn_of _ (by decide +kernel)) ggL_law_X4_told
theorem dL_law_0 : decode cL_law 0 = .ok (.new 7, 3) := by decide +kernel
theorem dL_law_3 : decode cL_law 3 = .ok (.dup, 1) := by decide +kernel
theorem dL_law_4 : decode cL_law 4 = .ok (.invokespecial 9, 3) := by decide +kernel
theorem dL_law_7 : decode cL_law 7 = .ok (.astore_n 1, 1) := by decide +kernel
theorem dL_law_8 : decode cL_law 8 = .ok (.new 10, 3) := by decide +kernel
theorem dL_law_11 : decode cL_law 11 = .ok (.dup, 1) := by decide +kernel
theorem dL_law_12 : decode cL_law 12 = .ok (.invokespecial 12, 3) := by decide +kernel
theorem dL_law_15 : decode cL_law 15 = .ok (.astore_n 2, 1) := by decide +kernel
theorem dL_law_16 : decode cL_law 16 = .ok (.iconst 0, 1) := by decide +kernel
theorem dL_law_17 : decode cL_law 17 = .ok (.istore_n 3, 1) := by decide +kernel
theorem dL_law_18 : decode cL_law 18 = .ok (.iload_n 3, 1) := by decide +kernel
theorem dL_law_19 : decode cL_law 19 = .ok (.aload_n 0, 1) := by decide +kernel
theorem dL_law_20 : decode cL_law 20 = .ok (.arraylength, 1) := by decide +kernel
theorem dL_law_21 : decode cL_law 21 = .ok (.iconst 4, 1) := by decide +kernel
theorem dL_law_22 : decode cL_law 22 = .ok (.isub, 1) := by decide +kernel
theorem dL_law_23 : decode cL_law 23 = .ok (.if_icmp .gt 612, 3) := by decide +kernel
theorem dL_law_26 : decode cL_law 26 = .ok (.aload_n 0, 1) := by decide +kernel
theorem dL_law_27 : decode cL_law 27 = .ok (.iload_n 3, 1) := by decide +kernel
theorem dL_law_28 : decode cL_law 28 = .ok (.iaload, 1) := by decide +kernel
theorem dL_law_29 : decode cL_law 29 = .ok (.bipush 31, 2) := by decide +kernel
theorem dL_law_31 : decode cL_law 31 = .ok (.iand, 1) := by decide +kernel
theorem dL_law_32 : decode cL_law 32 = .ok (.tableswitch 597 0 16 #[84, 127, 151, 175, 209, 233, 267, 301, 324, 367, 400, 449, 482, 505, 528, 551, 574], 84) := by decide +kernel
theorem dL_law_116 : decode cL_law 116 = .ok (.aload_n 1, 1) := by decide +kernel
theorem dL_law_117 : decode cL_law 117 = .ok (.aload_n 0, 1) := by decide +kernel
theorem dL_law_118 : decode cL_law 118 = .ok (.iload_n 3, 1) := by decide +kernel
theorem dL_law_119 : decode cL_law 119 = .ok (.iconst 1, 1) := by decide +kernel
theorem dL_law_120 : decode cL_law 120 = .ok (.iadd, 1) := by decide +kernel
theorem dL_law_121 : decode cL_law 121 = .ok (.iaload, 1) := by decide +kernel
theorem dL_law_122 : decode cL_law 122 = .ok (.aload_n 0, 1) := by decide +kernel
theorem dL_law_123 : decode cL_law 123 = .ok (.iload_n 3, 1) := by decide +kernel
theorem dL_law_124 : decode cL_law 124 = .ok (.iconst 2, 1) := by decide +kernel
theorem dL_law_125 : decode cL_law 125 = .ok (.iadd, 1) := by decide +kernel
theorem dL_law_126 : decode cL_law 126 = .ok (.iaload, 1) := by decide +kernel
theorem dL_law_127 : decode cL_law 127 = .ok (.aload_n 0, 1) := by decide +kernel
theorem dL_law_128 : decode cL_law 128 = .ok (.iload_n 3, 1) := by decide +kernel
theorem dL_law_129 : decode cL_law 129 = .ok (.iconst 3, 1) := by decide +kernel
theorem dL_law_130 : decode cL_law 130 = .ok (.iadd, 1) := by decide +kernel
theorem dL_law_131 : decode cL_law 131 = .ok (.iaload, 1) := by decide +kernel
theorem dL_law_132 : decode cL_law 132 = .ok (.invokevirtual 13, 3) := by decide +kernel
theorem dL_law_135 : decode cL_law 135 = .ok (.aload_n 2, 1) := by decide +kernel
theorem dL_law_136 : decode cL_law 136 = .ok (.aload_n 0, 1) := by decide +kernel
theorem dL_law_137 : decode cL_law 137 = .ok (.iload_n 3, 1) := by decide +kernel
theorem dL_law_138 : decode cL_law 138 = .ok (.iconst 1, 1) := by decide +kernel
theorem dL_law_139 : decode cL_law 139 = .ok (.iadd, 1) := by decide +kernel
theorem dL_law_140 : decode cL_law 140 = .ok (.iaload, 1) := by decide +kernel
theorem dL_law_141 : decode cL_law 141 = .ok (.aload_n 0, 1) := by decide +kernel
theorem dL_law_142 : decode cL_law 142 = .ok (.iload_n 3, 1) := by decide +kernel
theorem dL_law_143 : decode cL_law 143 = .ok (.iconst 2, 1) := by decide +kernel
theorem dL_law_144 : decode cL_law 144 = .ok (.iadd, 1) := by decide +kernel
theorem dL_law_145 : decode cL_law 145 = .ok (.iaload, 1) := by decide +kernel
theorem dL_law_146 : decode cL_law 146 = .ok (.aload_n 0, 1) := by decide +kernel
theorem dL_law_147 : decode cL_law 147 = .ok (.iload_n 3, 1) := by decide +kernel
theorem dL_law_148 : decode cL_law 148 = .ok (.iconst 3, 1) := by decide +kernel
theorem dL_law_149 : decode cL_law 149 = .ok (.iadd, 1) := by decide +kernel
theorem dL_law_150 : decode cL_law 150 = .ok (.iaload, 1) := by decide +kernel
theorem dL_law_151 : decode cL_law 151 = .ok (.invokevirtual 17, 3) := by decide +kernel
theorem dL_law_154 : decode cL_law 154 = .ok (.if_icmp .eq 475, 3) := by decide +kernel
theorem dL_law_157 : decode cL_law 157 = .ok (.iconst 0, 1) := by decide +kernel
theorem dL_law_158 : decode cL_law 158 = .ok (.ireturn, 1) := by decide +kernel
theorem dL_law_159 : decode cL_law 159 = .ok (.aload_n 1, 1) := by decide +kernel
theorem dL_law_160 : decode cL_law 160 = .ok (.aload_n 0, 1) := by decide +kernel
theorem dL_law_161 : decode cL_law 161 = .ok (.iload_n 3, 1) := by decide +kernel
theorem dL_law_162 : decode cL_law 162 = .ok (.iconst 1, 1) := by decide +kernel
theorem dL_law_163 : decode cL_law 163 = .ok (.iadd, 1) := by decide +kernel
theorem dL_law_164 : decode cL_law 164 = .ok (.iaload, 1) := by decide +kernel
theorem dL_law_165 : decode cL_law 165 = .ok (.invokevirtual 18, 3) := by decide +kernel
theorem dL_law_168 : decode cL_law 168 = .ok (.aload_n 2, 1) := by decide +kernel
theorem dL_law_169 : decode cL_law 169 = .ok (.aload_n 0, 1) := by decide +kernel
theorem dL_law_170 : decode cL_law 170 = .ok (.iload_n 3, 1) := by decide +kernel
theorem dL_law_171 : decode cL_law 171 = .ok (.iconst 1, 1) := by decide +kernel
theorem dL_law_172 : decode cL_law 172 = .ok (.iadd, 1) := by decide +kernel
theorem dL_law_173 : decode cL_law 173 = .ok (.iaload, 1) := by decide +kernel
theorem dL_law_174 : decode cL_law 174 = .ok (.invokevirtual 22, 3) := by decide +kernel
theorem dL_law_177 : decode cL_law 177 = .ok (.lcmp, 1) := by decide +kernel
theorem dL_law_178 : decode cL_law 178 = .ok (.ifCond .eq 451, 3) := by decide +kernel
theorem dL_law_181 : decode cL_law 181 = .ok (.iconst 0, 1) := by decide +kernel
theorem dL_law_182 : decode cL_law 182 = .ok (.ireturn, 1) := by decide +kernel
theorem dL_law_183 : decode cL_law 183 = .ok (.aload_n 1, 1) := by decide +kernel
theorem dL_law_184 : decode cL_law 184 = .ok (.aload_n 0, 1) := by decide +kernel
theorem dL_law_185 : decode cL_law 185 = .ok (.iload_n 3, 1) := by decide +kernel
theorem dL_law_186 : decode cL_law 186 = .ok (.iconst 1, 1) := by decide +kernel
theorem dL_law_187 : decode cL_law 187 = .ok (.iadd, 1) := by decide +kernel
theorem dL_law_188 : decode cL_law 188 = .ok (.iaload, 1) := by decide +kernel
theorem dL_law_189 : decode cL_law 189 = .ok (.invokevirtual 23, 3) := by decide +kernel
theorem dL_law_192 : decode cL_law 192 = .ok (.aload_n 2, 1) := by decide +kernel
theorem dL_law_193 : decode cL_law 193 = .ok (.aload_n 0, 1) := by decide +kernel
theorem dL_law_194 : decode cL_law 194 = .ok (.iload_n 3, 1) := by decide +kernel
theorem dL_law_195 : decode cL_law 195 = .ok (.iconst 1, 1) := by decide +kernel
theorem dL_law_196 : decode cL_law 196 = .ok (.iadd, 1) := by decide +kernel
theorem dL_law_197 : decode cL_law 197 = .ok (.iaload, 1) := by decide +kernel
theorem dL_law_198 : decode cL_law 198 = .ok (.invokevirtual 26, 3) := by decide +kernel
theorem dL_law_201 : decode cL_law 201 = .ok (.lcmp, 1) := by decide +kernel
theorem dL_law_202 : decode cL_law 202 = .ok (.ifCond .eq 427, 3) := by decide +kernel
theorem dL_law_205 : decode cL_law 205 = .ok (.iconst 0, 1) := by decide +kernel
theorem dL_law_206 : decode cL_law 206 = .ok (.ireturn, 1) := by decide +kernel
theorem dL_law_207 : decode cL_law 207 = .ok (.aload_n 1, 1) := by decide +kernel
theorem dL_law_208 : decode cL_law 208 = .ok (.aload_n 0, 1) := by decide +kernel
theorem dL_law_209 : decode cL_law 209 = .ok (.iload_n 3, 1) := by decide +kernel
theorem dL_law_210 : decode cL_law 210 = .ok (.iconst 1, 1) := by decide +kernel
theorem dL_law_211 : decode cL_law 211 = .ok (.iadd, 1) := by decide +kernel
theorem dL_law_212 : decode cL_law 212 = .ok (.iaload, 1) := by decide +kernel
theorem dL_law_213 : decode cL_law 213 = .ok (.aload_n 0, 1) := by decide +kernel
theorem dL_law_214 : decode cL_law 214 = .ok (.iload_n 3, 1) := by decide +kernel
theorem dL_law_215 : decode cL_law 215 = .ok (.iconst 2, 1) := by decide +kernel
theorem dL_law_216 : decode cL_law 216 = .ok (.iadd, 1) := by decide +kernel
theorem dL_law_217 : decode cL_law 217 = .ok (.iaload, 1) := by decide +kernel
theorem dL_law_218 : decode cL_law 218 = .ok (.invokevirtual 27, 3) := by decide +kernel
theorem dL_law_221 : decode cL_law 221 = .ok (.aload_n 2, 1) := by decide +kernel
theorem dL_law_222 : decode cL_law 222 = .ok (.aload_n 0, 1) := by decide +kernel
theorem dL_law_223 : decode cL_law 223 = .ok (.iload_n 3, 1) := by decide +kernel
theorem dL_law_224 : decode cL_law 224 = .ok (.iconst 1, 1) := by decide +kernel
theorem dL_law_225 : decode cL_law 225 = .ok (.iadd, 1) := by decide +kernel
theorem dL_law_226 : decode cL_law 226 = .ok (.iaload, 1) := by decide +kernel
theorem dL_law_227 : decode cL_law 227 = .ok (.aload_n 0, 1) := by decide +kernel
theorem dL_law_228 : decode cL_law 228 = .ok (.iload_n 3, 1) := by decide +kernel
theorem dL_law_229 : decode cL_law 229 = .ok (.iconst 2, 1) := by decide +kernel
theorem dL_law_230 : decode cL_law 230 = .ok (.iadd, 1) := by decide +kernel
theorem dL_law_231 : decode cL_law 231 = .ok (.iaload, 1) := by decide +kernel
theorem dL_law_232 : decode cL_law 232 = .ok (.invokevirtual 31, 3) := by decide +kernel
theorem dL_law_235 : decode cL_law 235 = .ok (.lcmp, 1) := by decide +kernel
theorem dL_law_236 : decode cL_law 236 = .ok (.ifCond .eq 393, 3) := by decide +kernel
theorem dL_law_239 : decode cL_law 239 = .ok (.iconst 0, 1) := by decide +kernel
theorem dL_law_240 : decode cL_law 240 = .ok (.ireturn, 1) := by decide +kernel
theorem dL_law_241 : decode cL_law 241 = .ok (.aload_n 1, 1) := by decide +kernel
theorem dL_law_242 : decode cL_law 242 = .ok (.aload_n 0, 1) := by decide +kernel
theorem dL_law_243 : decode cL_law 243 = .ok (.iload_n 3, 1) := by decide +kernel
theorem dL_law_244 : decode cL_law 244 = .ok (.iconst 1, 1) := by decide +kernel
theorem dL_law_245 : decode cL_law 245 = .ok (.iadd, 1) := by decide +kernel
theorem dL_law_246 : decode cL_law 246 = .ok (.iaload, 1) := by decide +kernel
theorem dL_law_247 : decode cL_law 247 = .ok (.invokevirtual 32, 3) := by decide +kernel
theorem dL_law_250 : decode cL_law 250 = .ok (.aload_n 2, 1) := by decide +kernel
theorem dL_law_251 : decode cL_law 251 = .ok (.aload_n 0, 1) := by decide +kernel
theorem dL_law_252 : decode cL_law 252 = .ok (.iload_n 3, 1) := by decide +kernel
theorem dL_law_253 : decode cL_law 253 = .ok (.iconst 1, 1) := by decide +kernel
theorem dL_law_254 : decode cL_law 254 = .ok (.iadd, 1) := by decide +kernel
theorem dL_law_255 : decode cL_law 255 = .ok (.iaload, 1) := by decide +kernel
theorem dL_law_256 : decode cL_law 256 = .ok (.invokevirtual 35, 3) := by decide +kernel
theorem dL_law_259 : decode cL_law 259 = .ok (.lcmp, 1) := by decide +kernel
theorem dL_law_260 : decode cL_law 260 = .ok (.ifCond .eq 369, 3) := by decide +kernel
theorem dL_law_263 : decode cL_law 263 = .ok (.iconst 0, 1) := by decide +kernel
theorem dL_law_264 : decode cL_law 264 = .ok (.ireturn, 1) := by decide +kernel
theorem dL_law_265 : decode cL_law 265 = .ok (.aload_n 1, 1) := by decide +kernel
theorem dL_law_266 : decode cL_law 266 = .ok (.aload_n 0, 1) := by decide +kernel
theorem dL_law_267 : decode cL_law 267 = .ok (.iload_n 3, 1) := by decide +kernel
theorem dL_law_268 : decode cL_law 268 = .ok (.iconst 1, 1) := by decide +kernel
theorem dL_law_269 : decode cL_law 269 = .ok (.iadd, 1) := by decide +kernel
theorem dL_law_270 : decode cL_law 270 = .ok (.iaload, 1) := by decide +kernel
theorem dL_law_271 : decode cL_law 271 = .ok (.aload_n 0, 1) := by decide +kernel
theorem dL_law_272 : decode cL_law 272 = .ok (.iload_n 3, 1) := by decide +kernel
theorem dL_law_273 : decode cL_law 273 = .ok (.iconst 2, 1) := by decide +kernel
theorem dL_law_274 : decode cL_law 274 = .ok (.iadd, 1) := by decide +kernel
theorem dL_law_275 : decode cL_law 275 = .ok (.iaload, 1) := by decide +kernel
theorem dL_law_276 : decode cL_law 276 = .ok (.invokevirtual 36, 3) := by decide +kernel
theorem dL_law_279 : decode cL_law 279 = .ok (.aload_n 2, 1) := by decide +kernel
theorem dL_law_280 : decode cL_law 280 = .ok (.aload_n 0, 1) := by decide +kernel
theorem dL_law_281 : decode cL_law 281 = .ok (.iload_n 3, 1) := by decide +kernel
theorem dL_law_282 : decode cL_law 282 = .ok (.iconst 1, 1) := by decide +kernel
theorem dL_law_283 : decode cL_law 283 = .ok (.iadd, 1) := by decide +kernel
theorem dL_law_284 : decode cL_law 284 = .ok (.iaload, 1) := by decide +kernel
theorem dL_law_285 : decode cL_law 285 = .ok (.aload_n 0, 1) := by decide +kernel
theorem dL_law_286 : decode cL_law 286 = .ok (.iload_n 3, 1) := by decide +kernel
theorem dL_law_287 : decode cL_law 287 = .ok (.iconst 2, 1) := by decide +kernel
theorem dL_law_288 : decode cL_law 288 = .ok (.iadd, 1) := by decide +kernel
theorem dL_law_289 : decode cL_law 289 = .ok (.iaload, 1) := by decide +kernel
theorem dL_law_290 : decode cL_law 290 = .ok (.invokevirtual 39, 3) := by decide +kernel
theorem dL_law_293 : decode cL_law 293 = .ok (.lcmp, 1) := by decide +kernel
theorem dL_law_294 : decode cL_law 294 = .ok (.ifCond .eq 335, 3) := by decide +kernel
theorem dL_law_297 : decode cL_law 297 = .ok (.iconst 0, 1) := by decide +kernel
theorem dL_law_298 : decode cL_law 298 = .ok (.ireturn, 1) := by decide +kernel
theorem dL_law_299 : decode cL_law 299 = .ok (.aload_n 1, 1) := by decide +kernel
theorem dL_law_300 : decode cL_law 300 = .ok (.aload_n 0, 1) := by decide +kernel
theorem dL_law_301 : decode cL_law 301 = .ok (.iload_n 3, 1) := by decide +kernel
theorem dL_law_302 : decode cL_law 302 = .ok (.iconst 1, 1) := by decide +kernel
theorem dL_law_303 : decode cL_law 303 = .ok (.iadd, 1) := by decide +kernel
theorem dL_law_304 : decode cL_law 304 = .ok (.iaload, 1) := by decide +kernel
theorem dL_law_305 : decode cL_law 305 = .ok (.aload_n 0, 1) := by decide +kernel
theorem dL_law_306 : decode cL_law 306 = .ok (.iload_n 3, 1) := by decide +kernel
theorem dL_law_307 : decode cL_law 307 = .ok (.iconst 2, 1) := by decide +kernel
theorem dL_law_308 : decode cL_law 308 = .ok (.iadd, 1) := by decide +kernel
theorem dL_law_309 : decode cL_law 309 = .ok (.iaload, 1) := by decide +kernel
theorem dL_law_310 : decode cL_law 310 = .ok (.invokevirtual 40, 3) := by decide +kernel
theorem dL_law_313 : decode cL_law 313 = .ok (.aload_n 2, 1) := by decide +kernel
theorem dL_law_314 : decode cL_law 314 = .ok (.aload_n 0, 1) := by decide +kernel
theorem dL_law_315 : decode cL_law 315 = .ok (.iload_n 3, 1) := by decide +kernel
theorem dL_law_316 : decode cL_law 316 = .ok (.iconst 1, 1) := by decide +kernel
theorem dL_law_317 : decode cL_law 317 = .ok (.iadd, 1) := by decide +kernel
theorem dL_law_318 : decode cL_law 318 = .ok (.iaload, 1) := by decide +kernel
theorem dL_law_319 : decode cL_law 319 = .ok (.aload_n 0, 1) := by decide +kernel
theorem dL_law_320 : decode cL_law 320 = .ok (.iload_n 3, 1) := by decide +kernel
theorem dL_law_321 : decode cL_law 321 = .ok (.iconst 2, 1) := by decide +kernel
theorem dL_law_322 : decode cL_law 322 = .ok (.iadd, 1) := by decide +kernel
theorem dL_law_323 : decode cL_law 323 = .ok (.iaload, 1) := by decide +kernel
theorem dL_law_324 : decode cL_law 324 = .ok (.invokevirtual 43, 3) := by decide +kernel
theorem dL_law_327 : decode cL_law 327 = .ok (.lcmp, 1) := by decide +kernel
theorem dL_law_328 : decode cL_law 328 = .ok (.ifCond .eq 301, 3) := by decide +kernel
theorem dL_law_331 : decode cL_law 331 = .ok (.iconst 0, 1) := by decide +kernel
theorem dL_law_332 : decode cL_law 332 = .ok (.ireturn, 1) := by decide +kernel
theorem dL_law_333 : decode cL_law 333 = .ok (.aload_n 1, 1) := by decide +kernel
theorem dL_law_334 : decode cL_law 334 = .ok (.aload_n 0, 1) := by decide +kernel
theorem dL_law_335 : decode cL_law 335 = .ok (.iload_n 3, 1) := by decide +kernel
theorem dL_law_336 : decode cL_law 336 = .ok (.iconst 1, 1) := by decide +kernel
theorem dL_law_337 : decode cL_law 337 = .ok (.iadd, 1) := by decide +kernel
theorem dL_law_338 : decode cL_law 338 = .ok (.iaload, 1) := by decide +kernel
theorem dL_law_339 : decode cL_law 339 = .ok (.invokevirtual 44, 3) := by decide +kernel
theorem dL_law_342 : decode cL_law 342 = .ok (.aload_n 2, 1) := by decide +kernel
theorem dL_law_343 : decode cL_law 343 = .ok (.aload_n 0, 1) := by decide +kernel
theorem dL_law_344 : decode cL_law 344 = .ok (.iload_n 3, 1) := by decide +kernel
theorem dL_law_345 : decode cL_law 345 = .ok (.iconst 1, 1) := by decide +kernel
theorem dL_law_346 : decode cL_law 346 = .ok (.iadd, 1) := by decide +kernel
theorem dL_law_347 : decode cL_law 347 = .ok (.iaload, 1) := by decide +kernel
theorem dL_law_348 : decode cL_law 348 = .ok (.invokevirtual 48, 3) := by decide +kernel
theorem dL_law_351 : decode cL_law 351 = .ok (.if_icmp .eq 278, 3) := by decide +kernel
theorem dL_law_354 : decode cL_law 354 = .ok (.iconst 0, 1) := by decide +kernel
theorem dL_law_355 : decode cL_law 355 = .ok (.ireturn, 1) := by decide +kernel
theorem dL_law_356 : decode cL_law 356 = .ok (.aload_n 1, 1) := by decide +kernel
theorem dL_law_357 : decode cL_law 357 = .ok (.aload_n 0, 1) := by decide +kernel
theorem dL_law_358 : decode cL_law 358 = .ok (.iload_n 3, 1) := by decide +kernel
theorem dL_law_359 : decode cL_law 359 = .ok (.iconst 1, 1) := by decide +kernel
theorem dL_law_360 : decode cL_law 360 = .ok (.iadd, 1) := by decide +kernel
theorem dL_law_361 : decode cL_law 361 = .ok (.iaload, 1) := by decide +kernel
theorem dL_law_362 : decode cL_law 362 = .ok (.aload_n 0, 1) := by decide +kernel
theorem dL_law_363 : decode cL_law 363 = .ok (.iload_n 3, 1) := by decide +kernel
theorem dL_law_364 : decode cL_law 364 = .ok (.iconst 2, 1) := by decide +kernel
theorem dL_law_365 : decode cL_law 365 = .ok (.iadd, 1) := by decide +kernel
theorem dL_law_366 : decode cL_law 366 = .ok (.iaload, 1) := by decide +kernel
theorem dL_law_367 : decode cL_law 367 = .ok (.aload_n 0, 1) := by decide +kernel
theorem dL_law_368 : decode cL_law 368 = .ok (.iload_n 3, 1) := by decide +kernel
theorem dL_law_369 : decode cL_law 369 = .ok (.iconst 3, 1) := by decide +kernel
theorem dL_law_370 : decode cL_law 370 = .ok (.iadd, 1) := by decide +kernel
theorem dL_law_371 : decode cL_law 371 = .ok (.iaload, 1) := by decide +kernel
theorem dL_law_372 : decode cL_law 372 = .ok (.invokevirtual 49, 3) := by decide +kernel
theorem dL_law_375 : decode cL_law 375 = .ok (.aload_n 2, 1) := by decide +kernel
theorem dL_law_376 : decode cL_law 376 = .ok (.aload_n 0, 1) := by decide +kernel
theorem dL_law_377 : decode cL_law 377 = .ok (.iload_n 3, 1) := by decide +kernel
theorem dL_law_378 : decode cL_law 378 = .ok (.iconst 1, 1) := by decide +kernel
theorem dL_law_379 : decode cL_law 379 = .ok (.iadd, 1) := by decide +kernel
theorem dL_law_380 : decode cL_law 380 = .ok (.iaload, 1) := by decide +kernel
theorem dL_law_381 : decode cL_law 381 = .ok (.aload_n 0, 1) := by decide +kernel
theorem dL_law_382 : decode cL_law 382 = .ok (.iload_n 3, 1) := by decide +kernel
theorem dL_law_383 : decode cL_law 383 = .ok (.iconst 2, 1) := by decide +kernel
theorem dL_law_384 : decode cL_law 384 = .ok (.iadd, 1) := by decide +kernel
theorem dL_law_385 : decode cL_law 385 = .ok (.iaload, 1) := by decide +kernel
theorem dL_law_386 : decode cL_law 386 = .ok (.aload_n 0, 1) := by decide +kernel
theorem dL_law_387 : decode cL_law 387 = .ok (.iload_n 3, 1) := by decide +kernel
theorem dL_law_388 : decode cL_law 388 = .ok (.iconst 3, 1) := by decide +kernel
theorem dL_law_389 : decode cL_law 389 = .ok (.iadd, 1) := by decide +kernel
theorem dL_law_390 : decode cL_law 390 = .ok (.iaload, 1) := by decide +kernel
theorem dL_law_391 : decode cL_law 391 = .ok (.invokevirtual 52, 3) := by decide +kernel
theorem dL_law_394 : decode cL_law 394 = .ok (.if_icmp .eq 235, 3) := by decide +kernel
theorem dL_law_397 : decode cL_law 397 = .ok (.iconst 0, 1) := by decide +kernel
theorem dL_law_398 : decode cL_law 398 = .ok (.ireturn, 1) := by decide +kernel
theorem dL_law_399 : decode cL_law 399 = .ok (.aload_n 1, 1) := by decide +kernel
theorem dL_law_400 : decode cL_law 400 = .ok (.aload_n 0, 1) := by decide +kernel
theorem dL_law_401 : decode cL_law 401 = .ok (.iload_n 3, 1) := by decide +kernel
theorem dL_law_402 : decode cL_law 402 = .ok (.iconst 1, 1) := by decide +kernel
theorem dL_law_403 : decode cL_law 403 = .ok (.iadd, 1) := by decide +kernel
theorem dL_law_404 : decode cL_law 404 = .ok (.iaload, 1) := by decide +kernel
theorem dL_law_405 : decode cL_law 405 = .ok (.aload_n 0, 1) := by decide +kernel
theorem dL_law_406 : decode cL_law 406 = .ok (.iload_n 3, 1) := by decide +kernel
theorem dL_law_407 : decode cL_law 407 = .ok (.iconst 2, 1) := by decide +kernel
theorem dL_law_408 : decode cL_law 408 = .ok (.iadd, 1) := by decide +kernel
theorem dL_law_409 : decode cL_law 409 = .ok (.iaload, 1) := by decide +kernel
theorem dL_law_410 : decode cL_law 410 = .ok (.invokevirtual 53, 3) := by decide +kernel
theorem dL_law_413 : decode cL_law 413 = .ok (.aload_n 2, 1) := by decide +kernel
theorem dL_law_414 : decode cL_law 414 = .ok (.aload_n 0, 1) := by decide +kernel
theorem dL_law_415 : decode cL_law 415 = .ok (.iload_n 3, 1) := by decide +kernel
theorem dL_law_416 : decode cL_law 416 = .ok (.iconst 1, 1) := by decide +kernel
theorem dL_law_417 : decode cL_law 417 = .ok (.iadd, 1) := by decide +kernel
theorem dL_law_418 : decode cL_law 418 = .ok (.iaload, 1) := by decide +kernel
theorem dL_law_419 : decode cL_law 419 = .ok (.aload_n 0, 1) := by decide +kernel
theorem dL_law_420 : decode cL_law 420 = .ok (.iload_n 3, 1) := by decide +kernel
theorem dL_law_421 : decode cL_law 421 = .ok (.iconst 2, 1) := by decide +kernel
theorem dL_law_422 : decode cL_law 422 = .ok (.iadd, 1) := by decide +kernel
theorem dL_law_423 : decode cL_law 423 = .ok (.iaload, 1) := by decide +kernel
theorem dL_law_424 : decode cL_law 424 = .ok (.invokevirtual 57, 3) := by decide +kernel
theorem dL_law_427 : decode cL_law 427 = .ok (.if_icmp .eq 202, 3) := by decide +kernel
theorem dL_law_430 : decode cL_law 430 = .ok (.iconst 0, 1) := by decide +kernel
theorem dL_law_431 : decode cL_law 431 = .ok (.ireturn, 1) := by decide +kernel
theorem dL_law_432 : decode cL_law 432 = .ok (.aload_n 1, 1) := by decide +kernel
theorem dL_law_433 : decode cL_law 433 = .ok (.aload_n 0, 1) := by decide +kernel
theorem dL_law_434 : decode cL_law 434 = .ok (.iload_n 3, 1) := by decide +kernel
theorem dL_law_435 : decode cL_law 435 = .ok (.iconst 1, 1) := by decide +kernel
theorem dL_law_436 : decode cL_law 436 = .ok (.iadd, 1) := by decide +kernel
theorem dL_law_437 : decode cL_law 437 = .ok (.iaload, 1) := by decide +kernel
theorem dL_law_438 : decode cL_law 438 = .ok (.aload_n 0, 1) := by decide +kernel
theorem dL_law_439 : decode cL_law 439 = .ok (.iload_n 3, 1) := by decide +kernel
theorem dL_law_440 : decode cL_law 440 = .ok (.iconst 2, 1) := by decide +kernel
theorem dL_law_441 : decode cL_law 441 = .ok (.iadd, 1) := by decide +kernel
theorem dL_law_442 : decode cL_law 442 = .ok (.iaload, 1) := by decide +kernel
theorem dL_law_443 : decode cL_law 443 = .ok (.ifCond .eq 7, 3) := by decide +kernel
theorem dL_law_446 : decode cL_law 446 = .ok (.iconst 1, 1) := by decide +kernel
theorem dL_law_447 : decode cL_law 447 = .ok (.goto 4, 3) := by decide +kernel
theorem dL_law_450 : decode cL_law 450 = .ok (.iconst 0, 1) := by decide +kernel
theorem dL_law_451 : decode cL_law 451 = .ok (.invokevirtual 58, 3) := by decide +kernel
theorem dL_law_454 : decode cL_law 454 = .ok (.aload_n 2, 1) := by decide +kernel
theorem dL_law_455 : decode cL_law 455 = .ok (.aload_n 0, 1) := by decide +kernel
theorem dL_law_456 : decode cL_law 456 = .ok (.iload_n 3, 1) := by decide +kernel
theorem dL_law_457 : decode cL_law 457 = .ok (.iconst 1, 1) := by decide +kernel
theorem dL_law_458 : decode cL_law 458 = .ok (.iadd, 1) := by decide +kernel
theorem dL_law_459 : decode cL_law 459 = .ok (.iaload, 1) := by decide +kernel
theorem dL_law_460 : decode cL_law 460 = .ok (.aload_n 0, 1) := by decide +kernel
theorem dL_law_461 : decode cL_law 461 = .ok (.iload_n 3, 1) := by decide +kernel
theorem dL_law_462 : decode cL_law 462 = .ok (.iconst 2, 1) := by decide +kernel
theorem dL_law_463 : decode cL_law 463 = .ok (.iadd, 1) := by decide +kernel
theorem dL_law_464 : decode cL_law 464 = .ok (.iaload, 1) := by decide +kernel
theorem dL_law_465 : decode cL_law 465 = .ok (.ifCond .eq 7, 3) := by decide +kernel
theorem dL_law_468 : decode cL_law 468 = .ok (.iconst 1, 1) := by decide +kernel
theorem dL_law_469 : decode cL_law 469 = .ok (.goto 4, 3) := by decide +kernel
theorem dL_law_472 : decode cL_law 472 = .ok (.iconst 0, 1) := by decide +kernel
theorem dL_law_473 : decode cL_law 473 = .ok (.invokevirtual 62, 3) := by decide +kernel
theorem dL_law_476 : decode cL_law 476 = .ok (.if_icmp .eq 153, 3) := by decide +kernel
theorem dL_law_479 : decode cL_law 479 = .ok (.iconst 0, 1) := by decide +kernel
theorem dL_law_480 : decode cL_law 480 = .ok (.ireturn, 1) := by decide +kernel
theorem dL_law_481 : decode cL_law 481 = .ok (.aload_n 1, 1) := by decide +kernel
theorem dL_law_482 : decode cL_law 482 = .ok (.aload_n 0, 1) := by decide +kernel
theorem dL_law_483 : decode cL_law 483 = .ok (.iload_n 3, 1) := by decide +kernel
theorem dL_law_484 : decode cL_law 484 = .ok (.iconst 1, 1) := by decide +kernel
theorem dL_law_485 : decode cL_law 485 = .ok (.iadd, 1) := by decide +kernel
theorem dL_law_486 : decode cL_law 486 = .ok (.iaload, 1) := by decide +kernel
theorem dL_law_487 : decode cL_law 487 = .ok (.aload_n 0, 1) := by decide +kernel
theorem dL_law_488 : decode cL_law 488 = .ok (.iload_n 3, 1) := by decide +kernel
theorem dL_law_489 : decode cL_law 489 = .ok (.iconst 2, 1) := by decide +kernel
theorem dL_law_490 : decode cL_law 490 = .ok (.iadd, 1) := by decide +kernel
theorem dL_law_491 : decode cL_law 491 = .ok (.iaload, 1) := by decide +kernel
theorem dL_law_492 : decode cL_law 492 = .ok (.invokevirtual 63, 3) := by decide +kernel
theorem dL_law_495 : decode cL_law 495 = .ok (.aload_n 2, 1) := by decide +kernel
theorem dL_law_496 : decode cL_law 496 = .ok (.aload_n 0, 1) := by decide +kernel
theorem dL_law_497 : decode cL_law 497 = .ok (.iload_n 3, 1) := by decide +kernel
theorem dL_law_498 : decode cL_law 498 = .ok (.iconst 1, 1) := by decide +kernel
theorem dL_law_499 : decode cL_law 499 = .ok (.iadd, 1) := by decide +kernel
theorem dL_law_500 : decode cL_law 500 = .ok (.iaload, 1) := by decide +kernel
theorem dL_law_501 : decode cL_law 501 = .ok (.aload_n 0, 1) := by decide +kernel
theorem dL_law_502 : decode cL_law 502 = .ok (.iload_n 3, 1) := by decide +kernel
theorem dL_law_503 : decode cL_law 503 = .ok (.iconst 2, 1) := by decide +kernel
theorem dL_law_504 : decode cL_law 504 = .ok (.iadd, 1) := by decide +kernel
theorem dL_law_505 : decode cL_law 505 = .ok (.iaload, 1) := by decide +kernel
theorem dL_law_506 : decode cL_law 506 = .ok (.invokevirtual 66, 3) := by decide +kernel
theorem dL_law_509 : decode cL_law 509 = .ok (.if_icmp .eq 120, 3) := by decide +kernel
theorem dL_law_512 : decode cL_law 512 = .ok (.iconst 0, 1) := by decide +kernel
theorem dL_law_513 : decode cL_law 513 = .ok (.ireturn, 1) := by decide +kernel
theorem dL_law_514 : decode cL_law 514 = .ok (.aload_n 1, 1) := by decide +kernel
theorem dL_law_515 : decode cL_law 515 = .ok (.aload_n 0, 1) := by decide +kernel
theorem dL_law_516 : decode cL_law 516 = .ok (.iload_n 3, 1) := by decide +kernel
theorem dL_law_517 : decode cL_law 517 = .ok (.iconst 1, 1) := by decide +kernel
theorem dL_law_518 : decode cL_law 518 = .ok (.iadd, 1) := by decide +kernel
theorem dL_law_519 : decode cL_law 519 = .ok (.iaload, 1) := by decide +kernel
theorem dL_law_520 : decode cL_law 520 = .ok (.invokevirtual 67, 3) := by decide +kernel
theorem dL_law_523 : decode cL_law 523 = .ok (.aload_n 2, 1) := by decide +kernel
theorem dL_law_524 : decode cL_law 524 = .ok (.aload_n 0, 1) := by decide +kernel
theorem dL_law_525 : decode cL_law 525 = .ok (.iload_n 3, 1) := by decide +kernel
theorem dL_law_526 : decode cL_law 526 = .ok (.iconst 1, 1) := by decide +kernel
theorem dL_law_527 : decode cL_law 527 = .ok (.iadd, 1) := by decide +kernel
theorem dL_law_528 : decode cL_law 528 = .ok (.iaload, 1) := by decide +kernel
theorem dL_law_529 : decode cL_law 529 = .ok (.invokevirtual 70, 3) := by decide +kernel
theorem dL_law_532 : decode cL_law 532 = .ok (.if_icmp .eq 97, 3) := by decide +kernel
theorem dL_law_535 : decode cL_law 535 = .ok (.iconst 0, 1) := by decide +kernel
theorem dL_law_536 : decode cL_law 536 = .ok (.ireturn, 1) := by decide +kernel
theorem dL_law_537 : decode cL_law 537 = .ok (.aload_n 1, 1) := by decide +kernel
theorem dL_law_538 : decode cL_law 538 = .ok (.aload_n 0, 1) := by decide +kernel
theorem dL_law_539 : decode cL_law 539 = .ok (.iload_n 3, 1) := by decide +kernel
theorem dL_law_540 : decode cL_law 540 = .ok (.iconst 1, 1) := by decide +kernel
theorem dL_law_541 : decode cL_law 541 = .ok (.iadd, 1) := by decide +kernel
theorem dL_law_542 : decode cL_law 542 = .ok (.iaload, 1) := by decide +kernel
theorem dL_law_543 : decode cL_law 543 = .ok (.invokevirtual 71, 3) := by decide +kernel
theorem dL_law_546 : decode cL_law 546 = .ok (.aload_n 2, 1) := by decide +kernel
theorem dL_law_547 : decode cL_law 547 = .ok (.aload_n 0, 1) := by decide +kernel
theorem dL_law_548 : decode cL_law 548 = .ok (.iload_n 3, 1) := by decide +kernel
theorem dL_law_549 : decode cL_law 549 = .ok (.iconst 1, 1) := by decide +kernel
theorem dL_law_550 : decode cL_law 550 = .ok (.iadd, 1) := by decide +kernel
theorem dL_law_551 : decode cL_law 551 = .ok (.iaload, 1) := by decide +kernel
theorem dL_law_552 : decode cL_law 552 = .ok (.invokevirtual 74, 3) := by decide +kernel
theorem dL_law_555 : decode cL_law 555 = .ok (.if_icmp .eq 74, 3) := by decide +kernel
theorem dL_law_558 : decode cL_law 558 = .ok (.iconst 0, 1) := by decide +kernel
theorem dL_law_559 : decode cL_law 559 = .ok (.ireturn, 1) := by decide +kernel
theorem dL_law_560 : decode cL_law 560 = .ok (.aload_n 1, 1) := by decide +kernel
theorem dL_law_561 : decode cL_law 561 = .ok (.aload_n 0, 1) := by decide +kernel
theorem dL_law_562 : decode cL_law 562 = .ok (.iload_n 3, 1) := by decide +kernel
theorem dL_law_563 : decode cL_law 563 = .ok (.iconst 1, 1) := by decide +kernel
theorem dL_law_564 : decode cL_law 564 = .ok (.iadd, 1) := by decide +kernel
theorem dL_law_565 : decode cL_law 565 = .ok (.iaload, 1) := by decide +kernel
theorem dL_law_566 : decode cL_law 566 = .ok (.invokevirtual 75, 3) := by decide +kernel
theorem dL_law_569 : decode cL_law 569 = .ok (.aload_n 2, 1) := by decide +kernel
theorem dL_law_570 : decode cL_law 570 = .ok (.aload_n 0, 1) := by decide +kernel
theorem dL_law_571 : decode cL_law 571 = .ok (.iload_n 3, 1) := by decide +kernel
theorem dL_law_572 : decode cL_law 572 = .ok (.iconst 1, 1) := by decide +kernel
theorem dL_law_573 : decode cL_law 573 = .ok (.iadd, 1) := by decide +kernel
theorem dL_law_574 : decode cL_law 574 = .ok (.iaload, 1) := by decide +kernel
theorem dL_law_575 : decode cL_law 575 = .ok (.invokevirtual 78, 3) := by decide +kernel
theorem dL_law_578 : decode cL_law 578 = .ok (.if_icmp .eq 51, 3) := by decide +kernel
theorem dL_law_581 : decode cL_law 581 = .ok (.iconst 0, 1) := by decide +kernel
theorem dL_law_582 : decode cL_law 582 = .ok (.ireturn, 1) := by decide +kernel
theorem dL_law_583 : decode cL_law 583 = .ok (.aload_n 1, 1) := by decide +kernel
theorem dL_law_584 : decode cL_law 584 = .ok (.aload_n 0, 1) := by decide +kernel
theorem dL_law_585 : decode cL_law 585 = .ok (.iload_n 3, 1) := by decide +kernel
theorem dL_law_586 : decode cL_law 586 = .ok (.iconst 1, 1) := by decide +kernel
theorem dL_law_587 : decode cL_law 587 = .ok (.iadd, 1) := by decide +kernel
theorem dL_law_588 : decode cL_law 588 = .ok (.iaload, 1) := by decide +kernel
theorem dL_law_589 : decode cL_law 589 = .ok (.invokevirtual 79, 3) := by decide +kernel
theorem dL_law_592 : decode cL_law 592 = .ok (.aload_n 2, 1) := by decide +kernel
theorem dL_law_593 : decode cL_law 593 = .ok (.aload_n 0, 1) := by decide +kernel
theorem dL_law_594 : decode cL_law 594 = .ok (.iload_n 3, 1) := by decide +kernel
theorem dL_law_595 : decode cL_law 595 = .ok (.iconst 1, 1) := by decide +kernel
theorem dL_law_596 : decode cL_law 596 = .ok (.iadd, 1) := by decide +kernel
theorem dL_law_597 : decode cL_law 597 = .ok (.iaload, 1) := by decide +kernel
theorem dL_law_598 : decode cL_law 598 = .ok (.invokevirtual 82, 3) := by decide +kernel
theorem dL_law_601 : decode cL_law 601 = .ok (.if_icmp .eq 28, 3) := by decide +kernel
theorem dL_law_604 : decode cL_law 604 = .ok (.iconst 0, 1) := by decide +kernel
theorem dL_law_605 : decode cL_law 605 = .ok (.ireturn, 1) := by decide +kernel
theorem dL_law_606 : decode cL_law 606 = .ok (.aload_n 1, 1) := by decide +kernel
theorem dL_law_607 : decode cL_law 607 = .ok (.aload_n 0, 1) := by decide +kernel
theorem dL_law_608 : decode cL_law 608 = .ok (.iload_n 3, 1) := by decide +kernel
theorem dL_law_609 : decode cL_law 609 = .ok (.iconst 1, 1) := by decide +kernel
theorem dL_law_610 : decode cL_law 610 = .ok (.iadd, 1) := by decide +kernel
theorem dL_law_611 : decode cL_law 611 = .ok (.iaload, 1) := by decide +kernel
theorem dL_law_612 : decode cL_law 612 = .ok (.invokevirtual 83, 3) := by decide +kernel
theorem dL_law_615 : decode cL_law 615 = .ok (.aload_n 2, 1) := by decide +kernel
theorem dL_law_616 : decode cL_law 616 = .ok (.aload_n 0, 1) := by decide +kernel
theorem dL_law_617 : decode cL_law 617 = .ok (.iload_n 3, 1) := by decide +kernel
theorem dL_law_618 : decode cL_law 618 = .ok (.iconst 1, 1) := by decide +kernel
theorem dL_law_619 : decode cL_law 619 = .ok (.iadd, 1) := by decide +kernel
theorem dL_law_620 : decode cL_law 620 = .ok (.iaload, 1) := by decide +kernel
theorem dL_law_621 : decode cL_law 621 = .ok (.invokevirtual 86, 3) := by decide +kernel
theorem dL_law_624 : decode cL_law 624 = .ok (.if_icmp .eq 5, 3) := by decide +kernel
theorem dL_law_627 : decode cL_law 627 = .ok (.iconst 0, 1) := by decide +kernel
theorem dL_law_628 : decode cL_law 628 = .ok (.ireturn, 1) := by decide +kernel
theorem dL_law_629 : decode cL_law 629 = .ok (.iinc 3 4, 3) := by decide +kernel
theorem dL_law_632 : decode cL_law 632 = .ok (.goto (-614), 3) := by decide +kernel
theorem dL_law_635 : decode cL_law 635 = .ok (.iconst 1, 1) := by decide +kernel
theorem dL_law_636 : decode cL_law 636 = .ok (.ireturn, 1) := by decide +kernel
abbrev vwCl : List vw_C := [(RX0, TX0, 5), (RX2, TX2, 8), (RX3, TX3, 2), (RX4, TX4, 13)]
