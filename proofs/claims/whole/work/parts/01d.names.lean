set_option maxRecDepth 20000 in
theorem ggX5_init_X5_begin : GoodIn wsX5_init wsX5_begin := goodIn_r _ [30, 31, 17, 32, 18, 33, 34, 35, 36, 37, 38, 39, 40, 41, 42, 43, 44, 45, 46, 47, 48, 49, 50, 51, 52, 53, 54, 55, 56] (by decide +kernel) (by decide +kernel)
set_option maxRecDepth 20000 in
theorem gX5_init_X5_begin : GoodIn wsX5_init (wsV RX5 71 RX5 yX5_begin wsX5_begin) := goodIn_app (goodIn_of _ (by decide +kernel)) ggX5_init_X5_begin
theorem dX5_init_0 : decode cX5_init 0 = .ok (.aload_n 0, 1) := by decide +kernel
theorem dX5_init_1 : decode cX5_init 1 = .ok (.invokespecial 1, 3) := by decide +kernel
theorem dX5_init_4 : decode cX5_init 4 = .ok (.aload_n 0, 1) := by decide +kernel
theorem dX5_init_5 : decode cX5_init 5 = .ok (.bipush 32, 2) := by decide +kernel
theorem dX5_init_7 : decode cX5_init 7 = .ok (.newarray .int, 2) := by decide +kernel
theorem dX5_init_9 : decode cX5_init 9 = .ok (.putfield 7, 3) := by decide +kernel
theorem dX5_init_12 : decode cX5_init 12 = .ok (.aload_n 0, 1) := by decide +kernel
theorem dX5_init_13 : decode cX5_init 13 = .ok (.bipush 32, 2) := by decide +kernel
theorem dX5_init_15 : decode cX5_init 15 = .ok (.newarray .int, 2) := by decide +kernel
theorem dX5_init_17 : decode cX5_init 17 = .ok (.putfield 13, 3) := by decide +kernel
theorem dX5_init_20 : decode cX5_init 20 = .ok (.aload_n 0, 1) := by decide +kernel
theorem dX5_init_21 : decode cX5_init 21 = .ok (.bipush 32, 2) := by decide +kernel
theorem dX5_init_23 : decode cX5_init 23 = .ok (.newarray .int, 2) := by decide +kernel
theorem dX5_init_25 : decode cX5_init 25 = .ok (.putfield 16, 3) := by decide +kernel
theorem dX5_init_28 : decode cX5_init 28 = .ok (.aload_n 0, 1) := by decide +kernel
theorem dX5_init_29 : decode cX5_init 29 = .ok (.bipush 32, 2) := by decide +kernel
theorem dX5_init_31 : decode cX5_init 31 = .ok (.newarray .int, 2) := by decide +kernel
theorem dX5_init_33 : decode cX5_init 33 = .ok (.putfield 19, 3) := by decide +kernel
theorem dX5_init_36 : decode cX5_init 36 = .ok (.aload_n 0, 1) := by decide +kernel
theorem dX5_init_37 : decode cX5_init 37 = .ok (.bipush 32, 2) := by decide +kernel
theorem dX5_init_39 : decode cX5_init 39 = .ok (.newarray .int, 2) := by decide +kernel
theorem dX5_init_41 : decode cX5_init 41 = .ok (.putfield 22, 3) := by decide +kernel
theorem dX5_init_44 : decode cX5_init 44 = .ok (.aload_n 0, 1) := by decide +kernel
theorem dX5_init_45 : decode cX5_init 45 = .ok (.iconst 4, 1) := by decide +kernel
theorem dX5_init_46 : decode cX5_init 46 = .ok (.newarray .int, 2) := by decide +kernel
theorem dX5_init_48 : decode cX5_init 48 = .ok (.putfield 25, 3) := by decide +kernel
theorem dX5_init_51 : decode cX5_init 51 = .ok (.aload_n 0, 1) := by decide +kernel
theorem dX5_init_52 : decode cX5_init 52 = .ok (.bipush 6, 2) := by decide +kernel
theorem dX5_init_54 : decode cX5_init 54 = .ok (.newarray .int, 2) := by decide +kernel
theorem dX5_init_56 : decode cX5_init 56 = .ok (.putfield 28, 3) := by decide +kernel
theorem dX5_init_59 : decode cX5_init 59 = .ok (.aload_n 0, 1) := by decide +kernel
theorem dX5_init_60 : decode cX5_init 60 = .ok (.bipush 6, 2) := by decide +kernel
theorem dX5_init_62 : decode cX5_init 62 = .ok (.newarray .int, 2) := by decide +kernel
theorem dX5_init_64 : decode cX5_init 64 = .ok (.putfield 31, 3) := by decide +kernel
theorem dX5_init_67 : decode cX5_init 67 = .ok (.aload_n 0, 1) := by decide +kernel
theorem dX5_init_68 : decode cX5_init 68 = .ok (.bipush 6, 2) := by decide +kernel
theorem dX5_init_70 : decode cX5_init 70 = .ok (.newarray .int, 2) := by decide +kernel
theorem dX5_init_72 : decode cX5_init 72 = .ok (.putfield 34, 3) := by decide +kernel
theorem dX5_init_75 : decode cX5_init 75 = .ok (.aload_n 0, 1) := by decide +kernel
theorem dX5_init_76 : decode cX5_init 76 = .ok (.bipush 6, 2) := by decide +kernel
theorem dX5_init_78 : decode cX5_init 78 = .ok (.newarray .int, 2) := by decide +kernel
theorem dX5_init_80 : decode cX5_init 80 = .ok (.putfield 37, 3) := by decide +kernel
theorem dX5_init_83 : decode cX5_init 83 = .ok (.aload_n 0, 1) := by decide +kernel
theorem dX5_init_84 : decode cX5_init 84 = .ok (.iconst 4, 1) := by decide +kernel
theorem dX5_init_85 : decode cX5_init 85 = .ok (.newarray .boolean, 2) := by decide +kernel
theorem dX5_init_87 : decode cX5_init 87 = .ok (.putfield 40, 3) := by decide +kernel
theorem dX5_init_90 : decode cX5_init 90 = .ok (.aload_n 0, 1) := by decide +kernel
theorem dX5_init_91 : decode cX5_init 91 = .ok (.bipush 64, 2) := by decide +kernel
theorem dX5_init_93 : decode cX5_init 93 = .ok (.newarray .boolean, 2) := by decide +kernel
theorem dX5_init_95 : decode cX5_init 95 = .ok (.putfield 44, 3) := by decide +kernel
theorem dX5_init_98 : decode cX5_init 98 = .ok (.aload_n 0, 1) := by decide +kernel
theorem dX5_init_99 : decode cX5_init 99 = .ok (.bipush 6, 2) := by decide +kernel
theorem dX5_init_101 : decode cX5_init 101 = .ok (.newarray .int, 2) := by decide +kernel
theorem dX5_init_103 : decode cX5_init 103 = .ok (.putfield 47, 3) := by decide +kernel
theorem dX5_init_106 : decode cX5_init 106 = .ok (.aload_n 0, 1) := by decide +kernel
theorem dX5_init_107 : decode cX5_init 107 = .ok (.bipush 32, 2) := by decide +kernel
theorem dX5_init_109 : decode cX5_init 109 = .ok (.newarray .int, 2) := by decide +kernel
theorem dX5_init_111 : decode cX5_init 111 = .ok (.putfield 50, 3) := by decide +kernel
theorem dX5_init_114 : decode cX5_init 114 = .ok (.aload_n 0, 1) := by decide +kernel
theorem dX5_init_115 : decode cX5_init 115 = .ok (.sipush 1024, 3) := by decide +kernel
theorem dX5_init_118 : decode cX5_init 118 = .ok (.newarray .int, 2) := by decide +kernel
theorem dX5_init_120 : decode cX5_init 120 = .ok (.putfield 53, 3) := by decide +kernel
theorem dX5_init_123 : decode cX5_init 123 = .ok (.aload_n 0, 1) := by decide +kernel
theorem dX5_init_124 : decode cX5_init 124 = .ok (.bipush 64, 2) := by decide +kernel
theorem dX5_init_126 : decode cX5_init 126 = .ok (.newarray .boolean, 2) := by decide +kernel
theorem dX5_init_128 : decode cX5_init 128 = .ok (.putfield 56, 3) := by decide +kernel
theorem dX5_init_131 : decode cX5_init 131 = .ok (.aload_n 0, 1) := by decide +kernel
theorem dX5_init_132 : decode cX5_init 132 = .ok (.bipush 64, 2) := by decide +kernel
theorem dX5_init_134 : decode cX5_init 134 = .ok (.newarray .boolean, 2) := by decide +kernel
theorem dX5_init_136 : decode cX5_init 136 = .ok (.putfield 59, 3) := by decide +kernel
theorem dX5_init_139 : decode cX5_init 139 = .ok (.aload_n 0, 1) := by decide +kernel
theorem dX5_init_140 : decode cX5_init 140 = .ok (.bipush 32, 2) := by decide +kernel
theorem dX5_init_142 : decode cX5_init 142 = .ok (.newarray .int, 2) := by decide +kernel
theorem dX5_init_144 : decode cX5_init 144 = .ok (.putfield 62, 3) := by decide +kernel
theorem dX5_init_147 : decode cX5_init 147 = .ok (.aload_n 0, 1) := by decide +kernel
theorem dX5_init_148 : decode cX5_init 148 = .ok (.bipush 16, 2) := by decide +kernel
theorem dX5_init_150 : decode cX5_init 150 = .ok (.newarray .int, 2) := by decide +kernel
theorem dX5_init_152 : decode cX5_init 152 = .ok (.putfield 65, 3) := by decide +kernel
theorem dX5_init_155 : decode cX5_init 155 = .ok (.aload_n 0, 1) := by decide +kernel
theorem dX5_init_156 : decode cX5_init 156 = .ok (.iconst 4, 1) := by decide +kernel
theorem dX5_init_157 : decode cX5_init 157 = .ok (.newarray .int, 2) := by decide +kernel
theorem dX5_init_159 : decode cX5_init 159 = .ok (.putfield 68, 3) := by decide +kernel
theorem dX5_init_162 : decode cX5_init 162 = .ok (.iconst 0, 1) := by decide +kernel
theorem dX5_init_163 : decode cX5_init 163 = .ok (.istore_n 1, 1) := by decide +kernel
theorem dX5_init_164 : decode cX5_init 164 = .ok (.iload_n 1, 1) := by decide +kernel
theorem dX5_init_165 : decode cX5_init 165 = .ok (.bipush 16, 2) := by decide +kernel
theorem dX5_init_167 : decode cX5_init 167 = .ok (.if_icmp .ge 17, 3) := by decide +kernel
theorem dX5_init_170 : decode cX5_init 170 = .ok (.aload_n 0, 1) := by decide +kernel
theorem dX5_init_171 : decode cX5_init 171 = .ok (.getfield 65, 3) := by decide +kernel
theorem dX5_init_174 : decode cX5_init 174 = .ok (.iload_n 1, 1) := by decide +kernel
theorem dX5_init_175 : decode cX5_init 175 = .ok (.bipush (-9), 2) := by decide +kernel
theorem dX5_init_177 : decode cX5_init 177 = .ok (.iastore, 1) := by decide +kernel
theorem dX5_init_178 : decode cX5_init 178 = .ok (.iinc 1 1, 3) := by decide +kernel
theorem dX5_init_181 : decode cX5_init 181 = .ok (.goto (-17), 3) := by decide +kernel
theorem dX5_init_184 : decode cX5_init 184 = .ok (.aload_n 0, 1) := by decide +kernel
theorem dX5_init_185 : decode cX5_init 185 = .ok (.invokevirtual 71, 3) := by decide +kernel
theorem dX5_init_188 : decode cX5_init 188 = .ok (.return_, 1) := by decide +kernel
theorem dX5_in_0 : decode cX5_in 0 = .ok (.iload_n 0, 1) := by decide +kernel
theorem dX5_in_1 : decode cX5_in 1 = .ok (.iload_n 1, 1) := by decide +kernel
theorem dX5_in_2 : decode cX5_in 2 = .ok (.if_icmp .lt 12, 3) := by decide +kernel
theorem dX5_in_5 : decode cX5_in 5 = .ok (.iload_n 0, 1) := by decide +kernel
theorem dX5_in_6 : decode cX5_in 6 = .ok (.iload_n 2, 1) := by decide +kernel
theorem dX5_in_7 : decode cX5_in 7 = .ok (.if_icmp .gt 7, 3) := by decide +kernel
theorem dX5_in_10 : decode cX5_in 10 = .ok (.iconst 1, 1) := by decide +kernel
theorem dX5_in_11 : decode cX5_in 11 = .ok (.goto 4, 3) := by decide +kernel
theorem dX5_in_14 : decode cX5_in 14 = .ok (.iconst 0, 1) := by decide +kernel
theorem dX5_in_15 : decode cX5_in 15 = .ok (.ireturn, 1) := by decide +kernel
set_option maxRecDepth 20000 in
theorem ggX5_isNode_X5_in : GoodIn wsX5_isNode wsX5_in := goodIn_r _ [5] (by decide +kernel) (by decide +kernel)
set_option maxRecDepth 20000 in
theorem gX5_isNode_X5_in : GoodIn wsX5_isNode (va_wsS RX5 78 yX5_in wsX5_in) := goodIn_app (goodIn_of _ (by decide +kernel)) ggX5_isNode_X5_in
theorem dX5_isNode_0 : decode cX5_isNode 0 = .ok (.iload_n 1, 1) := by decide +kernel
theorem dX5_isNode_1 : decode cX5_isNode 1 = .ok (.iconst 0, 1) := by decide +kernel
theorem dX5_isNode_2 : decode cX5_isNode 2 = .ok (.aload_n 0, 1) := by decide +kernel
theorem dX5_isNode_3 : decode cX5_isNode 3 = .ok (.getfield 74, 3) := by decide +kernel
theorem dX5_isNode_6 : decode cX5_isNode 6 = .ok (.iconst 1, 1) := by decide +kernel
theorem dX5_isNode_7 : decode cX5_isNode 7 = .ok (.isub, 1) := by decide +kernel
theorem dX5_isNode_8 : decode cX5_isNode 8 = .ok (.invokestatic 78, 3) := by decide +kernel
theorem dX5_isNode_11 : decode cX5_isNode 11 = .ok (.ireturn, 1) := by decide +kernel
theorem dX5_begin_0 : decode cX5_begin 0 = .ok (.aload_n 0, 1) := by decide +kernel
theorem dX5_begin_1 : decode cX5_begin 1 = .ok (.iconst 0, 1) := by decide +kernel
theorem dX5_begin_2 : decode cX5_begin 2 = .ok (.putfield 82, 3) := by decide +kernel
theorem dX5_begin_5 : decode cX5_begin 5 = .ok (.iconst 0, 1) := by decide +kernel
theorem dX5_begin_6 : decode cX5_begin 6 = .ok (.istore_n 1, 1) := by decide +kernel
theorem dX5_begin_7 : decode cX5_begin 7 = .ok (.iload_n 1, 1) := by decide +kernel
theorem dX5_begin_8 : decode cX5_begin 8 = .ok (.bipush 64, 2) := by decide +kernel
theorem dX5_begin_10 : decode cX5_begin 10 = .ok (.if_icmp .ge 30, 3) := by decide +kernel
theorem dX5_begin_13 : decode cX5_begin 13 = .ok (.aload_n 0, 1) := by decide +kernel
theorem dX5_begin_14 : decode cX5_begin 14 = .ok (.getfield 44, 3) := by decide +kernel
theorem dX5_begin_17 : decode cX5_begin 17 = .ok (.iload_n 1, 1) := by decide +kernel
theorem dX5_begin_18 : decode cX5_begin 18 = .ok (.iload_n 1, 1) := by decide +kernel
theorem dX5_begin_19 : decode cX5_begin 19 = .ok (.iconst 1, 1) := by decide +kernel
theorem dX5_begin_20 : decode cX5_begin 20 = .ok (.aload_n 0, 1) := by decide +kernel
theorem dX5_begin_21 : decode cX5_begin 21 = .ok (.getfield 85, 3) := by decide +kernel
theorem dX5_begin_24 : decode cX5_begin 24 = .ok (.ishl, 1) := by decide +kernel
theorem dX5_begin_25 : decode cX5_begin 25 = .ok (.if_icmp .ge 7, 3) := by decide +kernel
theorem dX5_begin_28 : decode cX5_begin 28 = .ok (.iconst 1, 1) := by decide +kernel
theorem dX5_begin_29 : decode cX5_begin 29 = .ok (.goto 4, 3) := by decide +kernel
theorem dX5_begin_32 : decode cX5_begin 32 = .ok (.iconst 0, 1) := by decide +kernel
theorem dX5_begin_33 : decode cX5_begin 33 = .ok (.bastore, 1) := by decide +kernel
theorem dX5_begin_34 : decode cX5_begin 34 = .ok (.iinc 1 1, 3) := by decide +kernel
theorem dX5_begin_37 : decode cX5_begin 37 = .ok (.goto (-30), 3) := by decide +kernel
theorem dX5_begin_40 : decode cX5_begin 40 = .ok (.iconst 0, 1) := by decide +kernel
theorem dX5_begin_41 : decode cX5_begin 41 = .ok (.istore_n 1, 1) := by decide +kernel
theorem dX5_begin_42 : decode cX5_begin 42 = .ok (.iload_n 1, 1) := by decide +kernel
theorem dX5_begin_43 : decode cX5_begin 43 = .ok (.bipush 6, 2) := by decide +kernel
theorem dX5_begin_45 : decode cX5_begin 45 = .ok (.if_icmp .ge 16, 3) := by decide +kernel
theorem dX5_begin_48 : decode cX5_begin 48 = .ok (.aload_n 0, 1) := by decide +kernel
theorem dX5_begin_49 : decode cX5_begin 49 = .ok (.getfield 47, 3) := by decide +kernel
theorem dX5_begin_52 : decode cX5_begin 52 = .ok (.iload_n 1, 1) := by decide +kernel
theorem dX5_begin_53 : decode cX5_begin 53 = .ok (.iconst 2, 1) := by decide +kernel
theorem dX5_begin_54 : decode cX5_begin 54 = .ok (.iastore, 1) := by decide +kernel
theorem dX5_begin_55 : decode cX5_begin 55 = .ok (.iinc 1 1, 3) := by decide +kernel
theorem dX5_begin_58 : decode cX5_begin 58 = .ok (.goto (-16), 3) := by decide +kernel
theorem dX5_begin_61 : decode cX5_begin 61 = .ok (.return_, 1) := by decide +kernel
set_option maxRecDepth 20000 in
theorem ggX5_add_X5_begin : GoodIn wsX5_add wsX5_begin := goodIn_r _ [11, 12, 13, 14, 15, 16, 17, 18, 19, 20, 21, 22, 23, 24, 25, 26, 27, 28, 29, 30, 31, 32, 33, 34, 35, 36, 37, 38, 39] (by decide +kernel) (by decide +kernel)
set_option maxRecDepth 20000 in
theorem gX5_add_X5_begin : GoodIn wsX5_add (wsV RX5 71 RX5 yX5_begin wsX5_begin) := goodIn_app (goodIn_of _ (by decide +kernel)) ggX5_add_X5_begin
theorem dX5_add_0 : decode cX5_add 0 = .ok (.aload_n 0, 1) := by decide +kernel
theorem dX5_add_1 : decode cX5_add 1 = .ok (.getfield 7, 3) := by decide +kernel
theorem dX5_add_4 : decode cX5_add 4 = .ok (.aload_n 0, 1) := by decide +kernel
theorem dX5_add_5 : decode cX5_add 5 = .ok (.getfield 74, 3) := by decide +kernel
theorem dX5_add_8 : decode cX5_add 8 = .ok (.iload_n 1, 1) := by decide +kernel
theorem dX5_add_9 : decode cX5_add 9 = .ok (.iastore, 1) := by decide +kernel
theorem dX5_add_10 : decode cX5_add 10 = .ok (.aload_n 0, 1) := by decide +kernel
theorem dX5_add_11 : decode cX5_add 11 = .ok (.getfield 13, 3) := by decide +kernel
theorem dX5_add_14 : decode cX5_add 14 = .ok (.aload_n 0, 1) := by decide +kernel
theorem dX5_add_15 : decode cX5_add 15 = .ok (.getfield 74, 3) := by decide +kernel
theorem dX5_add_18 : decode cX5_add 18 = .ok (.iload_n 2, 1) := by decide +kernel
theorem dX5_add_19 : decode cX5_add 19 = .ok (.iastore, 1) := by decide +kernel
theorem dX5_add_20 : decode cX5_add 20 = .ok (.aload_n 0, 1) := by decide +kernel
theorem dX5_add_21 : decode cX5_add 21 = .ok (.getfield 16, 3) := by decide +kernel
theorem dX5_add_24 : decode cX5_add 24 = .ok (.aload_n 0, 1) := by decide +kernel
theorem dX5_add_25 : decode cX5_add 25 = .ok (.getfield 74, 3) := by decide +kernel
theorem dX5_add_28 : decode cX5_add 28 = .ok (.iload_n 3, 1) := by decide +kernel
theorem dX5_add_29 : decode cX5_add 29 = .ok (.iastore, 1) := by decide +kernel
theorem dX5_add_30 : decode cX5_add 30 = .ok (.aload_n 0, 1) := by decide +kernel
theorem dX5_add_31 : decode cX5_add 31 = .ok (.getfield 19, 3) := by decide +kernel
theorem dX5_add_34 : decode cX5_add 34 = .ok (.aload_n 0, 1) := by decide +kernel
theorem dX5_add_35 : decode cX5_add 35 = .ok (.getfield 74, 3) := by decide +kernel
theorem dX5_add_38 : decode cX5_add 38 = .ok (.iload 4, 2) := by decide +kernel
theorem dX5_add_40 : decode cX5_add 40 = .ok (.iastore, 1) := by decide +kernel
theorem dX5_add_41 : decode cX5_add 41 = .ok (.aload_n 0, 1) := by decide +kernel
theorem dX5_add_42 : decode cX5_add 42 = .ok (.getfield 22, 3) := by decide +kernel
theorem dX5_add_45 : decode cX5_add 45 = .ok (.aload_n 0, 1) := by decide +kernel
theorem dX5_add_46 : decode cX5_add 46 = .ok (.getfield 74, 3) := by decide +kernel
theorem dX5_add_49 : decode cX5_add 49 = .ok (.iload 5, 2) := by decide +kernel
theorem dX5_add_51 : decode cX5_add 51 = .ok (.iastore, 1) := by decide +kernel
theorem dX5_add_52 : decode cX5_add 52 = .ok (.aload_n 0, 1) := by decide +kernel
theorem dX5_add_53 : decode cX5_add 53 = .ok (.dup, 1) := by decide +kernel
theorem dX5_add_54 : decode cX5_add 54 = .ok (.getfield 74, 3) := by decide +kernel
theorem dX5_add_57 : decode cX5_add 57 = .ok (.iconst 1, 1) := by decide +kernel
theorem dX5_add_58 : decode cX5_add 58 = .ok (.iadd, 1) := by decide +kernel
theorem dX5_add_59 : decode cX5_add 59 = .ok (.putfield 74, 3) := by decide +kernel
theorem dX5_add_62 : decode cX5_add 62 = .ok (.aload_n 0, 1) := by decide +kernel
theorem dX5_add_63 : decode cX5_add 63 = .ok (.invokevirtual 71, 3) := by decide +kernel
theorem dX5_add_66 : decode cX5_add 66 = .ok (.aload_n 0, 1) := by decide +kernel
theorem dX5_add_67 : decode cX5_add 67 = .ok (.getfield 74, 3) := by decide +kernel
theorem dX5_add_70 : decode cX5_add 70 = .ok (.iconst 1, 1) := by decide +kernel
theorem dX5_add_71 : decode cX5_add 71 = .ok (.isub, 1) := by decide +kernel
theorem dX5_add_72 : decode cX5_add 72 = .ok (.ireturn, 1) := by decide +kernel
set_option maxRecDepth 20000 in
theorem ggX5_input_X5_add : GoodIn wsX5_input wsX5_add := goodIn_r _ [8, 9, 2, 10, 11, 12, 13, 14, 15, 16, 7, 17, 18, 19, 20, 21, 22, 23, 24, 25, 26, 27, 28, 29, 30, 31, 32, 33, 34, 35, 36, 37, 38, 39, 40, 41, 42, 43, 44, 45] (by decide +kernel) (by decide +kernel)
set_option maxRecDepth 20000 in
theorem gX5_input_X5_add : GoodIn wsX5_input (wsV RX5 91 RX5 yX5_add wsX5_add) := goodIn_app (goodIn_of _ (by decide +kernel)) ggX5_input_X5_add
theorem dX5_input_0 : decode cX5_input 0 = .ok (.aload_n 0, 1) := by decide +kernel
theorem dX5_input_1 : decode cX5_input 1 = .ok (.getfield 88, 3) := by decide +kernel
theorem dX5_input_4 : decode cX5_input 4 = .ok (.iconst 4, 1) := by decide +kernel
theorem dX5_input_5 : decode cX5_input 5 = .ok (.if_icmp .eq 12, 3) := by decide +kernel
theorem dX5_input_8 : decode cX5_input 8 = .ok (.aload_n 0, 1) := by decide +kernel
theorem dX5_input_9 : decode cX5_input 9 = .ok (.getfield 74, 3) := by decide +kernel
theorem dX5_input_12 : decode cX5_input 12 = .ok (.bipush 32, 2) := by decide +kernel
theorem dX5_input_14 : decode cX5_input 14 = .ok (.if_icmp .ne 6, 3) := by decide +kernel
theorem dX5_input_17 : decode cX5_input 17 = .ok (.bipush (-4), 2) := by decide +kernel
theorem dX5_input_19 : decode cX5_input 19 = .ok (.ireturn, 1) := by decide +kernel
theorem dX5_input_20 : decode cX5_input 20 = .ok (.aload_n 0, 1) := by decide +kernel
theorem dX5_input_21 : decode cX5_input 21 = .ok (.getfield 25, 3) := by decide +kernel
theorem dX5_input_24 : decode cX5_input 24 = .ok (.aload_n 0, 1) := by decide +kernel
theorem dX5_input_25 : decode cX5_input 25 = .ok (.getfield 88, 3) := by decide +kernel
theorem dX5_input_28 : decode cX5_input 28 = .ok (.iconst 2, 1) := by decide +kernel
theorem dX5_input_29 : decode cX5_input 29 = .ok (.iastore, 1) := by decide +kernel
theorem dX5_input_30 : decode cX5_input 30 = .ok (.aload_n 0, 1) := by decide +kernel
theorem dX5_input_31 : decode cX5_input 31 = .ok (.dup, 1) := by decide +kernel
theorem dX5_input_32 : decode cX5_input 32 = .ok (.getfield 88, 3) := by decide +kernel
theorem dX5_input_35 : decode cX5_input 35 = .ok (.iconst 1, 1) := by decide +kernel
theorem dX5_input_36 : decode cX5_input 36 = .ok (.iadd, 1) := by decide +kernel
theorem dX5_input_37 : decode cX5_input 37 = .ok (.putfield 88, 3) := by decide +kernel
theorem dX5_input_40 : decode cX5_input 40 = .ok (.aload_n 0, 1) := by decide +kernel
theorem dX5_input_41 : decode cX5_input 41 = .ok (.iconst 0, 1) := by decide +kernel
theorem dX5_input_42 : decode cX5_input 42 = .ok (.aload_n 0, 1) := by decide +kernel
theorem dX5_input_43 : decode cX5_input 43 = .ok (.getfield 88, 3) := by decide +kernel
theorem dX5_input_46 : decode cX5_input 46 = .ok (.iconst 1, 1) := by decide +kernel
theorem dX5_input_47 : decode cX5_input 47 = .ok (.isub, 1) := by decide +kernel
theorem dX5_input_48 : decode cX5_input 48 = .ok (.iconst 0, 1) := by decide +kernel
theorem dX5_input_49 : decode cX5_input 49 = .ok (.iconst 0, 1) := by decide +kernel
theorem dX5_input_50 : decode cX5_input 50 = .ok (.iconst 0, 1) := by decide +kernel
theorem dX5_input_51 : decode cX5_input 51 = .ok (.invokevirtual 91, 3) := by decide +kernel
theorem dX5_input_54 : decode cX5_input 54 = .ok (.ireturn, 1) := by decide +kernel
set_option maxRecDepth 20000 in
theorem ggX5_fixed_X5_in : GoodIn wsX5_fixed wsX5_in := goodIn_r _ [5] (by decide +kernel) (by decide +kernel)
set_option maxRecDepth 20000 in
theorem gX5_fixed_X5_in : GoodIn wsX5_fixed (va_wsS RX5 78 yX5_in wsX5_in) := goodIn_app (goodIn_of _ (by decide +kernel)) ggX5_fixed_X5_in
set_option maxRecDepth 20000 in
theorem ggX5_fixed_X5_add : GoodIn wsX5_fixed wsX5_add := goodIn_r _ [9, 10, 1, 11, 12, 13, 14, 15, 16, 17, 4, 18, 19, 20, 21, 22, 23, 24, 25, 26, 27, 28, 29, 30, 31, 32, 33, 34, 35, 36, 37, 38, 39, 40, 41, 42, 43, 44, 45, 46] (by decide +kernel) (by decide +kernel)
set_option maxRecDepth 20000 in
theorem gX5_fixed_X5_add : GoodIn wsX5_fixed (wsV RX5 91 RX5 yX5_add wsX5_add) := goodIn_app (goodIn_of _ (by decide +kernel)) ggX5_fixed_X5_add
theorem dX5_fixed_0 : decode cX5_fixed 0 = .ok (.iload_n 1, 1) := by decide +kernel
theorem dX5_fixed_1 : decode cX5_fixed 1 = .ok (.iconst 0, 1) := by decide +kernel
theorem dX5_fixed_2 : decode cX5_fixed 2 = .ok (.iconst 1, 1) := by decide +kernel
theorem dX5_fixed_3 : decode cX5_fixed 3 = .ok (.invokestatic 78, 3) := by decide +kernel
theorem dX5_fixed_6 : decode cX5_fixed 6 = .ok (.ifCond .ne 6, 3) := by decide +kernel
theorem dX5_fixed_9 : decode cX5_fixed 9 = .ok (.bipush (-2), 2) := by decide +kernel
theorem dX5_fixed_11 : decode cX5_fixed 11 = .ok (.ireturn, 1) := by decide +kernel
theorem dX5_fixed_12 : decode cX5_fixed 12 = .ok (.aload_n 0, 1) := by decide +kernel
theorem dX5_fixed_13 : decode cX5_fixed 13 = .ok (.getfield 74, 3) := by decide +kernel
theorem dX5_fixed_16 : decode cX5_fixed 16 = .ok (.bipush 32, 2) := by decide +kernel
theorem dX5_fixed_18 : decode cX5_fixed 18 = .ok (.if_icmp .ne 8, 3) := by decide +kernel
theorem dX5_fixed_21 : decode cX5_fixed 21 = .ok (.bipush (-4), 2) := by decide +kernel
theorem dX5_fixed_23 : decode cX5_fixed 23 = .ok (.goto 12, 3) := by decide +kernel
theorem dX5_fixed_26 : decode cX5_fixed 26 = .ok (.aload_n 0, 1) := by decide +kernel
theorem dX5_fixed_27 : decode cX5_fixed 27 = .ok (.iconst 1, 1) := by decide +kernel
theorem dX5_fixed_28 : decode cX5_fixed 28 = .ok (.iload_n 1, 1) := by decide +kernel
theorem dX5_fixed_29 : decode cX5_fixed 29 = .ok (.iconst 0, 1) := by decide +kernel
theorem dX5_fixed_30 : decode cX5_fixed 30 = .ok (.iconst 0, 1) := by decide +kernel
theorem dX5_fixed_31 : decode cX5_fixed 31 = .ok (.iconst 0, 1) := by decide +kernel
theorem dX5_fixed_32 : decode cX5_fixed 32 = .ok (.invokevirtual 91, 3) := by decide +kernel
theorem dX5_fixed_35 : decode cX5_fixed 35 = .ok (.ireturn, 1) := by decide +kernel
set_option maxRecDepth 20000 in
theorem ggX5_gate_X5_in : GoodIn wsX5_gate wsX5_in := goodIn_r _ [5] (by decide +kernel) (by decide +kernel)
set_option maxRecDepth 20000 in
theorem gX5_gate_X5_in : GoodIn wsX5_gate (va_wsS RX5 78 yX5_in wsX5_in) := goodIn_app (goodIn_of _ (by decide +kernel)) ggX5_gate_X5_in
set_option maxRecDepth 20000 in
theorem ggX5_gate_X5_isNode : GoodIn wsX5_gate wsX5_isNode := goodIn_r _ [9, 1, 2, 3, 4, 5, 27, 28, 29, 30, 31, 32, 33, 34, 35, 36, 37, 38, 39, 40, 41, 42, 43, 44, 45, 46, 47, 48, 49, 50] (by decide +kernel) (by decide +kernel)
set_option maxRecDepth 20000 in
theorem gX5_gate_X5_isNode : GoodIn wsX5_gate (wsV RX5 95 RX5 yX5_isNode wsX5_isNode) := goodIn_app (goodIn_of _ (by decide +kernel)) ggX5_gate_X5_isNode
set_option maxRecDepth 20000 in
theorem ggX5_gate_X5_add : GoodIn wsX5_gate wsX5_add := goodIn_r _ [13, 14, 1, 15, 16, 17, 18, 19, 20, 21, 4, 22, 23, 24, 25, 26, 27, 28, 29, 30, 31, 32, 33, 34, 35, 36, 37, 38, 39, 40, 41, 42, 43, 44, 45, 46, 47, 48, 49, 50] (by decide +kernel) (by decide +kernel)
set_option maxRecDepth 20000 in
theorem gX5_gate_X5_add : GoodIn wsX5_gate (wsV RX5 91 RX5 yX5_add wsX5_add) := goodIn_app (goodIn_of _ (by decide +kernel)) ggX5_gate_X5_add
theorem dX5_gate_0 : decode cX5_gate 0 = .ok (.iload_n 1, 1) := by decide +kernel
theorem dX5_gate_1 : decode cX5_gate 1 = .ok (.iconst 0, 1) := by decide +kernel
theorem dX5_gate_2 : decode cX5_gate 2 = .ok (.iconst 4, 1) := by decide +kernel
theorem dX5_gate_3 : decode cX5_gate 3 = .ok (.invokestatic 78, 3) := by decide +kernel
theorem dX5_gate_6 : decode cX5_gate 6 = .ok (.ifCond .ne 6, 3) := by decide +kernel
theorem dX5_gate_9 : decode cX5_gate 9 = .ok (.bipush (-2), 2) := by decide +kernel
theorem dX5_gate_11 : decode cX5_gate 11 = .ok (.ireturn, 1) := by decide +kernel
theorem dX5_gate_12 : decode cX5_gate 12 = .ok (.aload_n 0, 1) := by decide +kernel
theorem dX5_gate_13 : decode cX5_gate 13 = .ok (.iload_n 2, 1) := by decide +kernel
theorem dX5_gate_14 : decode cX5_gate 14 = .ok (.invokevirtual 95, 3) := by decide +kernel
theorem dX5_gate_17 : decode cX5_gate 17 = .ok (.ifCond .eq 29, 3) := by decide +kernel
theorem dX5_gate_20 : decode cX5_gate 20 = .ok (.iload_n 1, 1) := by decide +kernel
theorem dX5_gate_21 : decode cX5_gate 21 = .ok (.ifCond .le 11, 3) := by decide +kernel
theorem dX5_gate_24 : decode cX5_gate 24 = .ok (.aload_n 0, 1) := by decide +kernel
theorem dX5_gate_25 : decode cX5_gate 25 = .ok (.iload_n 3, 1) := by decide +kernel
theorem dX5_gate_26 : decode cX5_gate 26 = .ok (.invokevirtual 95, 3) := by decide +kernel
theorem dX5_gate_29 : decode cX5_gate 29 = .ok (.ifCond .eq 17, 3) := by decide +kernel
theorem dX5_gate_32 : decode cX5_gate 32 = .ok (.iload_n 1, 1) := by decide +kernel
theorem dX5_gate_33 : decode cX5_gate 33 = .ok (.iconst 4, 1) := by decide +kernel
theorem dX5_gate_34 : decode cX5_gate 34 = .ok (.if_icmp .ne 14, 3) := by decide +kernel
theorem dX5_gate_37 : decode cX5_gate 37 = .ok (.aload_n 0, 1) := by decide +kernel
theorem dX5_gate_38 : decode cX5_gate 38 = .ok (.iload 4, 2) := by decide +kernel
theorem dX5_gate_40 : decode cX5_gate 40 = .ok (.invokevirtual 95, 3) := by decide +kernel
theorem dX5_gate_43 : decode cX5_gate 43 = .ok (.ifCond .ne 5, 3) := by decide +kernel
theorem dX5_gate_46 : decode cX5_gate 46 = .ok (.iconst (-1), 1) := by decide +kernel
theorem dX5_gate_47 : decode cX5_gate 47 = .ok (.ireturn, 1) := by decide +kernel
theorem dX5_gate_48 : decode cX5_gate 48 = .ok (.aload_n 0, 1) := by decide +kernel
theorem dX5_gate_49 : decode cX5_gate 49 = .ok (.getfield 74, 3) := by decide +kernel
theorem dX5_gate_52 : decode cX5_gate 52 = .ok (.bipush 32, 2) := by decide +kernel
theorem dX5_gate_54 : decode cX5_gate 54 = .ok (.if_icmp .ne 8, 3) := by decide +kernel
theorem dX5_gate_57 : decode cX5_gate 57 = .ok (.bipush (-4), 2) := by decide +kernel
theorem dX5_gate_59 : decode cX5_gate 59 = .ok (.goto 30, 3) := by decide +kernel
theorem dX5_gate_62 : decode cX5_gate 62 = .ok (.aload_n 0, 1) := by decide +kernel
theorem dX5_gate_63 : decode cX5_gate 63 = .ok (.iconst 2, 1) := by decide +kernel
theorem dX5_gate_64 : decode cX5_gate 64 = .ok (.iload_n 1, 1) := by decide +kernel
theorem dX5_gate_65 : decode cX5_gate 65 = .ok (.iload_n 2, 1) := by decide +kernel
theorem dX5_gate_66 : decode cX5_gate 66 = .ok (.iload_n 1, 1) := by decide +kernel
theorem dX5_gate_67 : decode cX5_gate 67 = .ok (.ifCond .le 7, 3) := by decide +kernel
theorem dX5_gate_70 : decode cX5_gate 70 = .ok (.iload_n 3, 1) := by decide +kernel
theorem dX5_gate_71 : decode cX5_gate 71 = .ok (.goto 4, 3) := by decide +kernel
theorem dX5_gate_74 : decode cX5_gate 74 = .ok (.iload_n 2, 1) := by decide +kernel
theorem dX5_gate_75 : decode cX5_gate 75 = .ok (.iload_n 1, 1) := by decide +kernel
theorem dX5_gate_76 : decode cX5_gate 76 = .ok (.iconst 4, 1) := by decide +kernel
theorem dX5_gate_77 : decode cX5_gate 77 = .ok (.if_icmp .ne 8, 3) := by decide +kernel
theorem dX5_gate_80 : decode cX5_gate 80 = .ok (.iload 4, 2) := by decide +kernel
theorem dX5_gate_82 : decode cX5_gate 82 = .ok (.goto 4, 3) := by decide +kernel
theorem dX5_gate_85 : decode cX5_gate 85 = .ok (.iload_n 2, 1) := by decide +kernel
theorem dX5_gate_86 : decode cX5_gate 86 = .ok (.invokevirtual 91, 3) := by decide +kernel
theorem dX5_gate_89 : decode cX5_gate 89 = .ok (.ireturn, 1) := by decide +kernel
set_option maxRecDepth 20000 in
theorem ggX5_store_X5_in : GoodIn wsX5_store wsX5_in := goodIn_r _ [10] (by decide +kernel) (by decide +kernel)
set_option maxRecDepth 20000 in
theorem gX5_store_X5_in : GoodIn wsX5_store (va_wsS RX5 78 yX5_in wsX5_in) := goodIn_app (goodIn_of _ (by decide +kernel)) ggX5_store_X5_in
set_option maxRecDepth 20000 in
theorem ggX5_store_X5_add : GoodIn wsX5_store wsX5_add := goodIn_r _ [14, 15, 2, 16, 17, 18, 19, 20, 21, 22, 9, 23, 24, 25, 1, 26, 27, 28, 29, 30, 31, 32, 33, 34, 35, 36, 37, 38, 39, 40, 41, 42, 43, 44, 45, 46, 47, 48, 49, 50] (by decide +kernel) (by decide +kernel)
set_option maxRecDepth 20000 in
theorem gX5_store_X5_add : GoodIn wsX5_store (wsV RX5 91 RX5 yX5_add wsX5_add) := goodIn_app (goodIn_of _ (by decide +kernel)) ggX5_store_X5_add
theorem dX5_store_0 : decode cX5_store 0 = .ok (.iload_n 1, 1) := by decide +kernel
theorem dX5_store_1 : decode cX5_store 1 = .ok (.bipush (-9), 2) := by decide +kernel
theorem dX5_store_3 : decode cX5_store 3 = .ok (.if_icmp .eq 14, 3) := by decide +kernel
theorem dX5_store_6 : decode cX5_store 6 = .ok (.iload_n 1, 1) := by decide +kernel
theorem dX5_store_7 : decode cX5_store 7 = .ok (.iconst 0, 1) := by decide +kernel
theorem dX5_store_8 : decode cX5_store 8 = .ok (.iconst 3, 1) := by decide +kernel
theorem dX5_store_9 : decode cX5_store 9 = .ok (.invokestatic 78, 3) := by decide +kernel
theorem dX5_store_12 : decode cX5_store 12 = .ok (.ifCond .ne 5, 3) := by decide +kernel
theorem dX5_store_15 : decode cX5_store 15 = .ok (.iconst (-1), 1) := by decide +kernel
theorem dX5_store_16 : decode cX5_store 16 = .ok (.ireturn, 1) := by decide +kernel
theorem dX5_store_17 : decode cX5_store 17 = .ok (.iload_n 2, 1) := by decide +kernel
theorem dX5_store_18 : decode cX5_store 18 = .ok (.iconst 0, 1) := by decide +kernel
theorem dX5_store_19 : decode cX5_store 19 = .ok (.iconst 1, 1) := by decide +kernel
theorem dX5_store_20 : decode cX5_store 20 = .ok (.invokestatic 78, 3) := by decide +kernel
theorem dX5_store_23 : decode cX5_store 23 = .ok (.ifCond .ne 6, 3) := by decide +kernel
theorem dX5_store_26 : decode cX5_store 26 = .ok (.bipush (-2), 2) := by decide +kernel
theorem dX5_store_28 : decode cX5_store 28 = .ok (.ireturn, 1) := by decide +kernel
theorem dX5_store_29 : decode cX5_store 29 = .ok (.aload_n 0, 1) := by decide +kernel
theorem dX5_store_30 : decode cX5_store 30 = .ok (.getfield 85, 3) := by decide +kernel
theorem dX5_store_33 : decode cX5_store 33 = .ok (.bipush 6, 2) := by decide +kernel
theorem dX5_store_35 : decode cX5_store 35 = .ok (.if_icmp .eq 12, 3) := by decide +kernel
theorem dX5_store_38 : decode cX5_store 38 = .ok (.aload_n 0, 1) := by decide +kernel
theorem dX5_store_39 : decode cX5_store 39 = .ok (.getfield 74, 3) := by decide +kernel
theorem dX5_store_42 : decode cX5_store 42 = .ok (.bipush 32, 2) := by decide +kernel
theorem dX5_store_44 : decode cX5_store 44 = .ok (.if_icmp .ne 6, 3) := by decide +kernel
theorem dX5_store_47 : decode cX5_store 47 = .ok (.bipush (-4), 2) := by decide +kernel
theorem dX5_store_49 : decode cX5_store 49 = .ok (.ireturn, 1) := by decide +kernel
theorem dX5_store_50 : decode cX5_store 50 = .ok (.aload_n 0, 1) := by decide +kernel
theorem dX5_store_51 : decode cX5_store 51 = .ok (.getfield 28, 3) := by decide +kernel
theorem dX5_store_54 : decode cX5_store 54 = .ok (.aload_n 0, 1) := by decide +kernel
theorem dX5_store_55 : decode cX5_store 55 = .ok (.getfield 85, 3) := by decide +kernel
theorem dX5_store_58 : decode cX5_store 58 = .ok (.aload_n 0, 1) := by decide +kernel
theorem dX5_store_59 : decode cX5_store 59 = .ok (.getfield 74, 3) := by decide +kernel
theorem dX5_store_62 : decode cX5_store 62 = .ok (.iastore, 1) := by decide +kernel
theorem dX5_store_63 : decode cX5_store 63 = .ok (.aload_n 0, 1) := by decide +kernel
theorem dX5_store_64 : decode cX5_store 64 = .ok (.getfield 31, 3) := by decide +kernel
theorem dX5_store_67 : decode cX5_store 67 = .ok (.aload_n 0, 1) := by decide +kernel
theorem dX5_store_68 : decode cX5_store 68 = .ok (.getfield 85, 3) := by decide +kernel
theorem dX5_store_71 : decode cX5_store 71 = .ok (.iload_n 1, 1) := by decide +kernel
theorem dX5_store_72 : decode cX5_store 72 = .ok (.iastore, 1) := by decide +kernel
theorem dX5_store_73 : decode cX5_store 73 = .ok (.aload_n 0, 1) := by decide +kernel
theorem dX5_store_74 : decode cX5_store 74 = .ok (.getfield 34, 3) := by decide +kernel
theorem dX5_store_77 : decode cX5_store 77 = .ok (.aload_n 0, 1) := by decide +kernel
theorem dX5_store_78 : decode cX5_store 78 = .ok (.getfield 85, 3) := by decide +kernel
theorem dX5_store_81 : decode cX5_store 81 = .ok (.iload_n 2, 1) := by decide +kernel
theorem dX5_store_82 : decode cX5_store 82 = .ok (.iastore, 1) := by decide +kernel
theorem dX5_store_83 : decode cX5_store 83 = .ok (.aload_n 0, 1) := by decide +kernel
theorem dX5_store_84 : decode cX5_store 84 = .ok (.getfield 37, 3) := by decide +kernel
theorem dX5_store_87 : decode cX5_store 87 = .ok (.aload_n 0, 1) := by decide +kernel
theorem dX5_store_88 : decode cX5_store 88 = .ok (.getfield 85, 3) := by decide +kernel
theorem dX5_store_91 : decode cX5_store 91 = .ok (.aload_n 0, 1) := by decide +kernel
theorem dX5_store_92 : decode cX5_store 92 = .ok (.getfield 74, 3) := by decide +kernel
theorem dX5_store_95 : decode cX5_store 95 = .ok (.iastore, 1) := by decide +kernel
theorem dX5_store_96 : decode cX5_store 96 = .ok (.aload_n 0, 1) := by decide +kernel
theorem dX5_store_97 : decode cX5_store 97 = .ok (.dup, 1) := by decide +kernel
theorem dX5_store_98 : decode cX5_store 98 = .ok (.getfield 85, 3) := by decide +kernel
theorem dX5_store_101 : decode cX5_store 101 = .ok (.iconst 1, 1) := by decide +kernel
theorem dX5_store_102 : decode cX5_store 102 = .ok (.iadd, 1) := by decide +kernel
theorem dX5_store_103 : decode cX5_store 103 = .ok (.putfield 85, 3) := by decide +kernel
theorem dX5_store_106 : decode cX5_store 106 = .ok (.aload_n 0, 1) := by decide +kernel
theorem dX5_store_107 : decode cX5_store 107 = .ok (.iconst 3, 1) := by decide +kernel
theorem dX5_store_108 : decode cX5_store 108 = .ok (.aload_n 0, 1) := by decide +kernel
theorem dX5_store_109 : decode cX5_store 109 = .ok (.getfield 85, 3) := by decide +kernel
theorem dX5_store_112 : decode cX5_store 112 = .ok (.iconst 1, 1) := by decide +kernel
theorem dX5_store_113 : decode cX5_store 113 = .ok (.isub, 1) := by decide +kernel
theorem dX5_store_114 : decode cX5_store 114 = .ok (.iconst 0, 1) := by decide +kernel
theorem dX5_store_115 : decode cX5_store 115 = .ok (.iconst 0, 1) := by decide +kernel
theorem dX5_store_116 : decode cX5_store 116 = .ok (.iconst 0, 1) := by decide +kernel
theorem dX5_store_117 : decode cX5_store 117 = .ok (.invokevirtual 91, 3) := by decide +kernel
theorem dX5_store_120 : decode cX5_store 120 = .ok (.ireturn, 1) := by decide +kernel
set_option maxRecDepth 20000 in
theorem ggX5_reads_X5_isNode : GoodIn wsX5_reads wsX5_isNode := goodIn_r _ [8, 9, 10, 11, 7, 12, 21, 22, 23, 24, 25, 26, 27, 28, 29, 30, 31, 32, 33, 34, 35, 36, 37, 38, 39, 40, 41, 42, 43, 44] (by decide +kernel) (by decide +kernel)
set_option maxRecDepth 20000 in
theorem gX5_reads_X5_isNode : GoodIn wsX5_reads (wsV RX5 95 RX5 yX5_isNode wsX5_isNode) := goodIn_app (goodIn_of _ (by decide +kernel)) ggX5_reads_X5_isNode
set_option maxRecDepth 20000 in
theorem ggX5_reads_X5_begin : GoodIn wsX5_reads wsX5_begin := goodIn_r _ [16, 17, 18, 19, 20, 21, 22, 23, 24, 25, 26, 27, 28, 29, 30, 31, 32, 33, 34, 35, 36, 37, 38, 39, 40, 41, 42, 43, 44] (by decide +kernel) (by decide +kernel)
set_option maxRecDepth 20000 in
theorem gX5_reads_X5_begin : GoodIn wsX5_reads (wsV RX5 71 RX5 yX5_begin wsX5_begin) := goodIn_app (goodIn_of _ (by decide +kernel)) ggX5_reads_X5_begin
theorem dX5_reads_0 : decode cX5_reads 0 = .ok (.aload_n 0, 1) := by decide +kernel
theorem dX5_reads_1 : decode cX5_reads 1 = .ok (.iload_n 1, 1) := by decide +kernel
theorem dX5_reads_2 : decode cX5_reads 2 = .ok (.invokevirtual 95, 3) := by decide +kernel
theorem dX5_reads_5 : decode cX5_reads 5 = .ok (.ifCond .eq 11, 3) := by decide +kernel
theorem dX5_reads_8 : decode cX5_reads 8 = .ok (.aload_n 0, 1) := by decide +kernel
theorem dX5_reads_9 : decode cX5_reads 9 = .ok (.iload_n 2, 1) := by decide +kernel
theorem dX5_reads_10 : decode cX5_reads 10 = .ok (.invokevirtual 95, 3) := by decide +kernel
theorem dX5_reads_13 : decode cX5_reads 13 = .ok (.ifCond .ne 5, 3) := by decide +kernel
theorem dX5_reads_16 : decode cX5_reads 16 = .ok (.iconst (-1), 1) := by decide +kernel
theorem dX5_reads_17 : decode cX5_reads 17 = .ok (.ireturn, 1) := by decide +kernel
theorem dX5_reads_18 : decode cX5_reads 18 = .ok (.aload_n 0, 1) := by decide +kernel
theorem dX5_reads_19 : decode cX5_reads 19 = .ok (.getfield 7, 3) := by decide +kernel
theorem dX5_reads_22 : decode cX5_reads 22 = .ok (.iload_n 1, 1) := by decide +kernel
theorem dX5_reads_23 : decode cX5_reads 23 = .ok (.iaload, 1) := by decide +kernel
theorem dX5_reads_24 : decode cX5_reads 24 = .ok (.iconst 3, 1) := by decide +kernel
theorem dX5_reads_25 : decode cX5_reads 25 = .ok (.if_icmp .eq 6, 3) := by decide +kernel
theorem dX5_reads_28 : decode cX5_reads 28 = .ok (.bipush (-3), 2) := by decide +kernel
theorem dX5_reads_30 : decode cX5_reads 30 = .ok (.ireturn, 1) := by decide +kernel
theorem dX5_reads_31 : decode cX5_reads 31 = .ok (.aload_n 0, 1) := by decide +kernel
theorem dX5_reads_32 : decode cX5_reads 32 = .ok (.getfield 37, 3) := by decide +kernel
theorem dX5_reads_35 : decode cX5_reads 35 = .ok (.aload_n 0, 1) := by decide +kernel
theorem dX5_reads_36 : decode cX5_reads 36 = .ok (.getfield 13, 3) := by decide +kernel
theorem dX5_reads_39 : decode cX5_reads 39 = .ok (.iload_n 1, 1) := by decide +kernel
theorem dX5_reads_40 : decode cX5_reads 40 = .ok (.iaload, 1) := by decide +kernel
theorem dX5_reads_41 : decode cX5_reads 41 = .ok (.iaload, 1) := by decide +kernel
theorem dX5_reads_42 : decode cX5_reads 42 = .ok (.istore_n 3, 1) := by decide +kernel
theorem dX5_reads_43 : decode cX5_reads 43 = .ok (.iload_n 3, 1) := by decide +kernel
theorem dX5_reads_44 : decode cX5_reads 44 = .ok (.iload_n 2, 1) := by decide +kernel
theorem dX5_reads_45 : decode cX5_reads 45 = .ok (.if_icmp .eq 19, 3) := by decide +kernel
theorem dX5_reads_48 : decode cX5_reads 48 = .ok (.aload_n 0, 1) := by decide +kernel
theorem dX5_reads_49 : decode cX5_reads 49 = .ok (.getfield 37, 3) := by decide +kernel
theorem dX5_reads_52 : decode cX5_reads 52 = .ok (.aload_n 0, 1) := by decide +kernel
theorem dX5_reads_53 : decode cX5_reads 53 = .ok (.getfield 13, 3) := by decide +kernel
theorem dX5_reads_56 : decode cX5_reads 56 = .ok (.iload_n 1, 1) := by decide +kernel
theorem dX5_reads_57 : decode cX5_reads 57 = .ok (.iaload, 1) := by decide +kernel
theorem dX5_reads_58 : decode cX5_reads 58 = .ok (.iload_n 2, 1) := by decide +kernel
theorem dX5_reads_59 : decode cX5_reads 59 = .ok (.iastore, 1) := by decide +kernel
theorem dX5_reads_60 : decode cX5_reads 60 = .ok (.aload_n 0, 1) := by decide +kernel
theorem dX5_reads_61 : decode cX5_reads 61 = .ok (.invokevirtual 71, 3) := by decide +kernel
theorem dX5_reads_64 : decode cX5_reads 64 = .ok (.iload_n 3, 1) := by decide +kernel
theorem dX5_reads_65 : decode cX5_reads 65 = .ok (.ireturn, 1) := by decide +kernel
set_option maxRecDepth 20000 in
theorem ggX5_about_X5_isNode : GoodIn wsX5_about wsX5_isNode := goodIn_r _ [10, 11, 12, 13, 9, 14, 15, 16, 17, 18, 19, 20, 21, 22, 23, 24, 25, 26, 27, 28, 29, 30, 31, 32, 33, 34, 35, 36, 37, 38] (by decide +kernel) (by decide +kernel)
set_option maxRecDepth 20000 in
theorem gX5_about_X5_isNode : GoodIn wsX5_about (wsV RX5 95 RX5 yX5_isNode wsX5_isNode) := goodIn_app (goodIn_of _ (by decide +kernel)) ggX5_about_X5_isNode
theorem dX5_about_0 : decode cX5_about 0 = .ok (.aload_n 0, 1) := by decide +kernel
theorem dX5_about_1 : decode cX5_about 1 = .ok (.iload_n 1, 1) := by decide +kernel
theorem dX5_about_2 : decode cX5_about 2 = .ok (.invokevirtual 95, 3) := by decide +kernel
theorem dX5_about_5 : decode cX5_about 5 = .ok (.ifCond .ne 5, 3) := by decide +kernel
theorem dX5_about_8 : decode cX5_about 8 = .ok (.iconst (-1), 1) := by decide +kernel
theorem dX5_about_9 : decode cX5_about 9 = .ok (.ireturn, 1) := by decide +kernel
theorem dX5_about_10 : decode cX5_about 10 = .ok (.aload_n 0, 1) := by decide +kernel
theorem dX5_about_11 : decode cX5_about 11 = .ok (.getfield 7, 3) := by decide +kernel
theorem dX5_about_14 : decode cX5_about 14 = .ok (.iload_n 1, 1) := by decide +kernel
theorem dX5_about_15 : decode cX5_about 15 = .ok (.iaload, 1) := by decide +kernel
theorem dX5_about_16 : decode cX5_about 16 = .ok (.iconst 3, 1) := by decide +kernel
theorem dX5_about_17 : decode cX5_about 17 = .ok (.if_icmp .ne 7, 3) := by decide +kernel
theorem dX5_about_20 : decode cX5_about 20 = .ok (.iconst 1, 1) := by decide +kernel
theorem dX5_about_21 : decode cX5_about 21 = .ok (.goto 4, 3) := by decide +kernel
theorem dX5_about_24 : decode cX5_about 24 = .ok (.iconst 0, 1) := by decide +kernel
theorem dX5_about_25 : decode cX5_about 25 = .ok (.istore_n 3, 1) := by decide +kernel
theorem dX5_about_26 : decode cX5_about 26 = .ok (.iload_n 2, 1) := by decide +kernel
theorem dX5_about_27 : decode cX5_about 27 = .ok (.tableswitch 125 0 4 #[33, 40, 62, 83, 104], 33) := by decide +kernel
theorem dX5_about_60 : decode cX5_about 60 = .ok (.aload_n 0, 1) := by decide +kernel
theorem dX5_about_61 : decode cX5_about 61 = .ok (.getfield 7, 3) := by decide +kernel
theorem dX5_about_64 : decode cX5_about 64 = .ok (.iload_n 1, 1) := by decide +kernel
theorem dX5_about_65 : decode cX5_about 65 = .ok (.iaload, 1) := by decide +kernel
theorem dX5_about_66 : decode cX5_about 66 = .ok (.ireturn, 1) := by decide +kernel
theorem dX5_about_67 : decode cX5_about 67 = .ok (.aload_n 0, 1) := by decide +kernel
theorem dX5_about_68 : decode cX5_about 68 = .ok (.getfield 7, 3) := by decide +kernel
theorem dX5_about_71 : decode cX5_about 71 = .ok (.iload_n 1, 1) := by decide +kernel
theorem dX5_about_72 : decode cX5_about 72 = .ok (.iaload, 1) := by decide +kernel
theorem dX5_about_73 : decode cX5_about 73 = .ok (.iconst 2, 1) := by decide +kernel
theorem dX5_about_74 : decode cX5_about 74 = .ok (.if_icmp .ne 12, 3) := by decide +kernel
theorem dX5_about_77 : decode cX5_about 77 = .ok (.aload_n 0, 1) := by decide +kernel
theorem dX5_about_78 : decode cX5_about 78 = .ok (.getfield 13, 3) := by decide +kernel
theorem dX5_about_81 : decode cX5_about 81 = .ok (.iload_n 1, 1) := by decide +kernel
theorem dX5_about_82 : decode cX5_about 82 = .ok (.iaload, 1) := by decide +kernel
theorem dX5_about_83 : decode cX5_about 83 = .ok (.goto 5, 3) := by decide +kernel
theorem dX5_about_86 : decode cX5_about 86 = .ok (.bipush (-9), 2) := by decide +kernel
theorem dX5_about_88 : decode cX5_about 88 = .ok (.ireturn, 1) := by decide +kernel
theorem dX5_about_89 : decode cX5_about 89 = .ok (.iload_n 3, 1) := by decide +kernel
theorem dX5_about_90 : decode cX5_about 90 = .ok (.ifCond .eq 17, 3) := by decide +kernel
theorem dX5_about_93 : decode cX5_about 93 = .ok (.aload_n 0, 1) := by decide +kernel
theorem dX5_about_94 : decode cX5_about 94 = .ok (.getfield 31, 3) := by decide +kernel
theorem dX5_about_97 : decode cX5_about 97 = .ok (.aload_n 0, 1) := by decide +kernel
theorem dX5_about_98 : decode cX5_about 98 = .ok (.getfield 13, 3) := by decide +kernel
theorem dX5_about_101 : decode cX5_about 101 = .ok (.iload_n 1, 1) := by decide +kernel
theorem dX5_about_102 : decode cX5_about 102 = .ok (.iaload, 1) := by decide +kernel
theorem dX5_about_103 : decode cX5_about 103 = .ok (.iaload, 1) := by decide +kernel
theorem dX5_about_104 : decode cX5_about 104 = .ok (.goto 5, 3) := by decide +kernel
theorem dX5_about_107 : decode cX5_about 107 = .ok (.bipush (-9), 2) := by decide +kernel
theorem dX5_about_109 : decode cX5_about 109 = .ok (.ireturn, 1) := by decide +kernel
theorem dX5_about_110 : decode cX5_about 110 = .ok (.iload_n 3, 1) := by decide +kernel
theorem dX5_about_111 : decode cX5_about 111 = .ok (.ifCond .eq 17, 3) := by decide +kernel
theorem dX5_about_114 : decode cX5_about 114 = .ok (.aload_n 0, 1) := by decide +kernel
theorem dX5_about_115 : decode cX5_about 115 = .ok (.getfield 34, 3) := by decide +kernel
theorem dX5_about_118 : decode cX5_about 118 = .ok (.aload_n 0, 1) := by decide +kernel
theorem dX5_about_119 : decode cX5_about 119 = .ok (.getfield 13, 3) := by decide +kernel
theorem dX5_about_122 : decode cX5_about 122 = .ok (.iload_n 1, 1) := by decide +kernel
theorem dX5_about_123 : decode cX5_about 123 = .ok (.iaload, 1) := by decide +kernel
theorem dX5_about_124 : decode cX5_about 124 = .ok (.iaload, 1) := by decide +kernel
theorem dX5_about_125 : decode cX5_about 125 = .ok (.goto 5, 3) := by decide +kernel
theorem dX5_about_128 : decode cX5_about 128 = .ok (.bipush (-9), 2) := by decide +kernel
theorem dX5_about_130 : decode cX5_about 130 = .ok (.ireturn, 1) := by decide +kernel
theorem dX5_about_131 : decode cX5_about 131 = .ok (.iload_n 3, 1) := by decide +kernel
theorem dX5_about_132 : decode cX5_about 132 = .ok (.ifCond .eq 17, 3) := by decide +kernel
theorem dX5_about_135 : decode cX5_about 135 = .ok (.aload_n 0, 1) := by decide +kernel
theorem dX5_about_136 : decode cX5_about 136 = .ok (.getfield 37, 3) := by decide +kernel
theorem dX5_about_139 : decode cX5_about 139 = .ok (.aload_n 0, 1) := by decide +kernel
theorem dX5_about_140 : decode cX5_about 140 = .ok (.getfield 13, 3) := by decide +kernel
theorem dX5_about_143 : decode cX5_about 143 = .ok (.iload_n 1, 1) := by decide +kernel
theorem dX5_about_144 : decode cX5_about 144 = .ok (.iaload, 1) := by decide +kernel
theorem dX5_about_145 : decode cX5_about 145 = .ok (.iaload, 1) := by decide +kernel
theorem dX5_about_146 : decode cX5_about 146 = .ok (.goto 5, 3) := by decide +kernel
theorem dX5_about_149 : decode cX5_about 149 = .ok (.bipush (-9), 2) := by decide +kernel
theorem dX5_about_151 : decode cX5_about 151 = .ok (.ireturn, 1) := by decide +kernel
theorem dX5_about_152 : decode cX5_about 152 = .ok (.bipush (-2), 2) := by decide +kernel
theorem dX5_about_154 : decode cX5_about 154 = .ok (.ireturn, 1) := by decide +kernel
theorem dX5_gateOf_0 : decode cX5_gateOf 0 = .ok (.iload_n 0, 1) := by decide +kernel
theorem dX5_gateOf_1 : decode cX5_gateOf 1 = .ok (.tableswitch 47 0 3 #[31, 35, 39, 43], 31) := by decide +kernel
theorem dX5_gateOf_32 : decode cX5_gateOf 32 = .ok (.iconst 1, 1) := by decide +kernel
theorem dX5_gateOf_33 : decode cX5_gateOf 33 = .ok (.iload_n 1, 1) := by decide +kernel
theorem dX5_gateOf_34 : decode cX5_gateOf 34 = .ok (.isub, 1) := by decide +kernel
theorem dX5_gateOf_35 : decode cX5_gateOf 35 = .ok (.ireturn, 1) := by decide +kernel
theorem dX5_gateOf_36 : decode cX5_gateOf 36 = .ok (.iload_n 1, 1) := by decide +kernel
theorem dX5_gateOf_37 : decode cX5_gateOf 37 = .ok (.iload_n 2, 1) := by decide +kernel
theorem dX5_gateOf_38 : decode cX5_gateOf 38 = .ok (.iand, 1) := by decide +kernel
theorem dX5_gateOf_39 : decode cX5_gateOf 39 = .ok (.ireturn, 1) := by decide +kernel
theorem dX5_gateOf_40 : decode cX5_gateOf 40 = .ok (.iload_n 1, 1) := by decide +kernel
theorem dX5_gateOf_41 : decode cX5_gateOf 41 = .ok (.iload_n 2, 1) := by decide +kernel
theorem dX5_gateOf_42 : decode cX5_gateOf 42 = .ok (.ior, 1) := by decide +kernel
theorem dX5_gateOf_43 : decode cX5_gateOf 43 = .ok (.ireturn, 1) := by decide +kernel
theorem dX5_gateOf_44 : decode cX5_gateOf 44 = .ok (.iload_n 1, 1) := by decide +kernel
theorem dX5_gateOf_45 : decode cX5_gateOf 45 = .ok (.iload_n 2, 1) := by decide +kernel
theorem dX5_gateOf_46 : decode cX5_gateOf 46 = .ok (.ixor, 1) := by decide +kernel
theorem dX5_gateOf_47 : decode cX5_gateOf 47 = .ok (.ireturn, 1) := by decide +kernel
theorem dX5_gateOf_48 : decode cX5_gateOf 48 = .ok (.iload_n 1, 1) := by decide +kernel
theorem dX5_gateOf_49 : decode cX5_gateOf 49 = .ok (.iconst 1, 1) := by decide +kernel
theorem dX5_gateOf_50 : decode cX5_gateOf 50 = .ok (.if_icmp .ne 7, 3) := by decide +kernel
theorem dX5_gateOf_53 : decode cX5_gateOf 53 = .ok (.iload_n 2, 1) := by decide +kernel
theorem dX5_gateOf_54 : decode cX5_gateOf 54 = .ok (.goto 4, 3) := by decide +kernel
theorem dX5_gateOf_57 : decode cX5_gateOf 57 = .ok (.iload_n 3, 1) := by decide +kernel
theorem dX5_gateOf_58 : decode cX5_gateOf 58 = .ok (.ireturn, 1) := by decide +kernel
set_option maxRecDepth 20000 in
theorem ggX5_work_X5_gateOf : GoodIn wsX5_work wsX5_gateOf := goodIn_r _ [11] (by decide +kernel) (by decide +kernel)
set_option maxRecDepth 20000 in
theorem gX5_work_X5_gateOf : GoodIn wsX5_work (va_wsS RX5 99 yX5_gateOf wsX5_gateOf) := goodIn_app (goodIn_of _ (by decide +kernel)) ggX5_work_X5_gateOf
theorem dX5_work_0 : decode cX5_work 0 = .ok (.iconst 0, 1) := by decide +kernel
theorem dX5_work_1 : decode cX5_work 1 = .ok (.istore_n 3, 1) := by decide +kernel
theorem dX5_work_2 : decode cX5_work 2 = .ok (.iload_n 3, 1) := by decide +kernel
theorem dX5_work_3 : decode cX5_work 3 = .ok (.aload_n 0, 1) := by decide +kernel
theorem dX5_work_4 : decode cX5_work 4 = .ok (.getfield 74, 3) := by decide +kernel
theorem dX5_work_7 : decode cX5_work 7 = .ok (.if_icmp .ge 127, 3) := by decide +kernel
theorem dX5_work_10 : decode cX5_work 10 = .ok (.aload_n 0, 1) := by decide +kernel
theorem dX5_work_11 : decode cX5_work 11 = .ok (.getfield 7, 3) := by decide +kernel
theorem dX5_work_14 : decode cX5_work 14 = .ok (.iload_n 3, 1) := by decide +kernel
theorem dX5_work_15 : decode cX5_work 15 = .ok (.iaload, 1) := by decide +kernel
theorem dX5_work_16 : decode cX5_work 16 = .ok (.iconst 2, 1) := by decide +kernel
theorem dX5_work_17 : decode cX5_work 17 = .ok (.if_icmp .ne 54, 3) := by decide +kernel
theorem dX5_work_20 : decode cX5_work 20 = .ok (.aload_n 0, 1) := by decide +kernel
theorem dX5_work_21 : decode cX5_work 21 = .ok (.getfield 50, 3) := by decide +kernel
theorem dX5_work_24 : decode cX5_work 24 = .ok (.iload_n 3, 1) := by decide +kernel
theorem dX5_work_25 : decode cX5_work 25 = .ok (.aload_n 0, 1) := by decide +kernel
theorem dX5_work_26 : decode cX5_work 26 = .ok (.getfield 13, 3) := by decide +kernel
theorem dX5_work_29 : decode cX5_work 29 = .ok (.iload_n 3, 1) := by decide +kernel
theorem dX5_work_30 : decode cX5_work 30 = .ok (.iaload, 1) := by decide +kernel
theorem dX5_work_31 : decode cX5_work 31 = .ok (.aload_n 0, 1) := by decide +kernel
theorem dX5_work_32 : decode cX5_work 32 = .ok (.getfield 50, 3) := by decide +kernel
theorem dX5_work_35 : decode cX5_work 35 = .ok (.aload_n 0, 1) := by decide +kernel
theorem dX5_work_36 : decode cX5_work 36 = .ok (.getfield 16, 3) := by decide +kernel
theorem dX5_work_39 : decode cX5_work 39 = .ok (.iload_n 3, 1) := by decide +kernel
theorem dX5_work_40 : decode cX5_work 40 = .ok (.iaload, 1) := by decide +kernel
theorem dX5_work_41 : decode cX5_work 41 = .ok (.iaload, 1) := by decide +kernel
theorem dX5_work_42 : decode cX5_work 42 = .ok (.aload_n 0, 1) := by decide +kernel
theorem dX5_work_43 : decode cX5_work 43 = .ok (.getfield 50, 3) := by decide +kernel
theorem dX5_work_46 : decode cX5_work 46 = .ok (.aload_n 0, 1) := by decide +kernel
theorem dX5_work_47 : decode cX5_work 47 = .ok (.getfield 19, 3) := by decide +kernel
theorem dX5_work_50 : decode cX5_work 50 = .ok (.iload_n 3, 1) := by decide +kernel
theorem dX5_work_51 : decode cX5_work 51 = .ok (.iaload, 1) := by decide +kernel
theorem dX5_work_52 : decode cX5_work 52 = .ok (.iaload, 1) := by decide +kernel
theorem dX5_work_53 : decode cX5_work 53 = .ok (.aload_n 0, 1) := by decide +kernel
theorem dX5_work_54 : decode cX5_work 54 = .ok (.getfield 50, 3) := by decide +kernel
theorem dX5_work_57 : decode cX5_work 57 = .ok (.aload_n 0, 1) := by decide +kernel
theorem dX5_work_58 : decode cX5_work 58 = .ok (.getfield 22, 3) := by decide +kernel
theorem dX5_work_61 : decode cX5_work 61 = .ok (.iload_n 3, 1) := by decide +kernel
theorem dX5_work_62 : decode cX5_work 62 = .ok (.iaload, 1) := by decide +kernel
theorem dX5_work_63 : decode cX5_work 63 = .ok (.iaload, 1) := by decide +kernel
theorem dX5_work_64 : decode cX5_work 64 = .ok (.invokestatic 99, 3) := by decide +kernel
theorem dX5_work_67 : decode cX5_work 67 = .ok (.iastore, 1) := by decide +kernel
theorem dX5_work_68 : decode cX5_work 68 = .ok (.goto 60, 3) := by decide +kernel
theorem dX5_work_71 : decode cX5_work 71 = .ok (.aload_n 0, 1) := by decide +kernel
theorem dX5_work_72 : decode cX5_work 72 = .ok (.getfield 50, 3) := by decide +kernel
theorem dX5_work_75 : decode cX5_work 75 = .ok (.iload_n 3, 1) := by decide +kernel
theorem dX5_work_76 : decode cX5_work 76 = .ok (.aload_n 0, 1) := by decide +kernel
theorem dX5_work_77 : decode cX5_work 77 = .ok (.getfield 7, 3) := by decide +kernel
theorem dX5_work_80 : decode cX5_work 80 = .ok (.iload_n 3, 1) := by decide +kernel
theorem dX5_work_81 : decode cX5_work 81 = .ok (.iaload, 1) := by decide +kernel
theorem dX5_work_82 : decode cX5_work 82 = .ok (.iconst 1, 1) := by decide +kernel
theorem dX5_work_83 : decode cX5_work 83 = .ok (.if_icmp .ne 12, 3) := by decide +kernel
theorem dX5_work_86 : decode cX5_work 86 = .ok (.aload_n 0, 1) := by decide +kernel
theorem dX5_work_87 : decode cX5_work 87 = .ok (.getfield 13, 3) := by decide +kernel
theorem dX5_work_90 : decode cX5_work 90 = .ok (.iload_n 3, 1) := by decide +kernel
theorem dX5_work_91 : decode cX5_work 91 = .ok (.iaload, 1) := by decide +kernel
theorem dX5_work_92 : decode cX5_work 92 = .ok (.goto 35, 3) := by decide +kernel
theorem dX5_work_95 : decode cX5_work 95 = .ok (.aload_n 0, 1) := by decide +kernel
theorem dX5_work_96 : decode cX5_work 96 = .ok (.getfield 7, 3) := by decide +kernel
theorem dX5_work_99 : decode cX5_work 99 = .ok (.iload_n 3, 1) := by decide +kernel
theorem dX5_work_100 : decode cX5_work 100 = .ok (.iaload, 1) := by decide +kernel
theorem dX5_work_101 : decode cX5_work 101 = .ok (.ifCond .ne 16, 3) := by decide +kernel
theorem dX5_work_104 : decode cX5_work 104 = .ok (.iload_n 2, 1) := by decide +kernel
theorem dX5_work_105 : decode cX5_work 105 = .ok (.aload_n 0, 1) := by decide +kernel
theorem dX5_work_106 : decode cX5_work 106 = .ok (.getfield 13, 3) := by decide +kernel
theorem dX5_work_109 : decode cX5_work 109 = .ok (.iload_n 3, 1) := by decide +kernel
theorem dX5_work_110 : decode cX5_work 110 = .ok (.iaload, 1) := by decide +kernel
theorem dX5_work_111 : decode cX5_work 111 = .ok (.ishr, 1) := by decide +kernel
theorem dX5_work_112 : decode cX5_work 112 = .ok (.iconst 1, 1) := by decide +kernel
theorem dX5_work_113 : decode cX5_work 113 = .ok (.iand, 1) := by decide +kernel
theorem dX5_work_114 : decode cX5_work 114 = .ok (.goto 13, 3) := by decide +kernel
theorem dX5_work_117 : decode cX5_work 117 = .ok (.iload_n 1, 1) := by decide +kernel
theorem dX5_work_118 : decode cX5_work 118 = .ok (.aload_n 0, 1) := by decide +kernel
theorem dX5_work_119 : decode cX5_work 119 = .ok (.getfield 13, 3) := by decide +kernel
theorem dX5_work_122 : decode cX5_work 122 = .ok (.iload_n 3, 1) := by decide +kernel
theorem dX5_work_123 : decode cX5_work 123 = .ok (.iaload, 1) := by decide +kernel
theorem dX5_work_124 : decode cX5_work 124 = .ok (.ishr, 1) := by decide +kernel
theorem dX5_work_125 : decode cX5_work 125 = .ok (.iconst 1, 1) := by decide +kernel
theorem dX5_work_126 : decode cX5_work 126 = .ok (.iand, 1) := by decide +kernel
theorem dX5_work_127 : decode cX5_work 127 = .ok (.iastore, 1) := by decide +kernel
theorem dX5_work_128 : decode cX5_work 128 = .ok (.iinc 3 1, 3) := by decide +kernel
theorem dX5_work_131 : decode cX5_work 131 = .ok (.goto (-129), 3) := by decide +kernel
theorem dX5_work_134 : decode cX5_work 134 = .ok (.return_, 1) := by decide +kernel
theorem dX5_isPut_0 : decode cX5_isPut 0 = .ok (.iconst 1, 1) := by decide +kernel
theorem dX5_isPut_1 : decode cX5_isPut 1 = .ok (.istore_n 3, 1) := by decide +kernel
theorem dX5_isPut_2 : decode cX5_isPut 2 = .ok (.iconst 0, 1) := by decide +kernel
theorem dX5_isPut_3 : decode cX5_isPut 3 = .ok (.istore 4, 2) := by decide +kernel
theorem dX5_isPut_5 : decode cX5_isPut 5 = .ok (.iload 4, 2) := by decide +kernel
theorem dX5_isPut_7 : decode cX5_isPut 7 = .ok (.aload_n 0, 1) := by decide +kernel
theorem dX5_isPut_8 : decode cX5_isPut 8 = .ok (.getfield 88, 3) := by decide +kernel
theorem dX5_isPut_11 : decode cX5_isPut 11 = .ok (.if_icmp .ge 50, 3) := by decide +kernel
theorem dX5_isPut_14 : decode cX5_isPut 14 = .ok (.iload_n 3, 1) := by decide +kernel
theorem dX5_isPut_15 : decode cX5_isPut 15 = .ok (.ifCond .eq 38, 3) := by decide +kernel
theorem dX5_isPut_18 : decode cX5_isPut 18 = .ok (.iload_n 2, 1) := by decide +kernel
theorem dX5_isPut_19 : decode cX5_isPut 19 = .ok (.ifCond .ne 30, 3) := by decide +kernel
theorem dX5_isPut_22 : decode cX5_isPut 22 = .ok (.aload_n 0, 1) := by decide +kernel
theorem dX5_isPut_23 : decode cX5_isPut 23 = .ok (.getfield 25, 3) := by decide +kernel
theorem dX5_isPut_26 : decode cX5_isPut 26 = .ok (.iload 4, 2) := by decide +kernel
theorem dX5_isPut_28 : decode cX5_isPut 28 = .ok (.iaload, 1) := by decide +kernel
theorem dX5_isPut_29 : decode cX5_isPut 29 = .ok (.iconst 2, 1) := by decide +kernel
theorem dX5_isPut_30 : decode cX5_isPut 30 = .ok (.if_icmp .eq 19, 3) := by decide +kernel
theorem dX5_isPut_33 : decode cX5_isPut 33 = .ok (.aload_n 0, 1) := by decide +kernel
theorem dX5_isPut_34 : decode cX5_isPut 34 = .ok (.getfield 25, 3) := by decide +kernel
theorem dX5_isPut_37 : decode cX5_isPut 37 = .ok (.iload 4, 2) := by decide +kernel
theorem dX5_isPut_39 : decode cX5_isPut 39 = .ok (.iaload, 1) := by decide +kernel
theorem dX5_isPut_40 : decode cX5_isPut 40 = .ok (.iload_n 1, 1) := by decide +kernel
theorem dX5_isPut_41 : decode cX5_isPut 41 = .ok (.iload 4, 2) := by decide +kernel
theorem dX5_isPut_43 : decode cX5_isPut 43 = .ok (.ishr, 1) := by decide +kernel
theorem dX5_isPut_44 : decode cX5_isPut 44 = .ok (.iconst 1, 1) := by decide +kernel
theorem dX5_isPut_45 : decode cX5_isPut 45 = .ok (.iand, 1) := by decide +kernel
theorem dX5_isPut_46 : decode cX5_isPut 46 = .ok (.if_icmp .ne 7, 3) := by decide +kernel
theorem dX5_isPut_49 : decode cX5_isPut 49 = .ok (.iconst 1, 1) := by decide +kernel
theorem dX5_isPut_50 : decode cX5_isPut 50 = .ok (.goto 4, 3) := by decide +kernel
theorem dX5_isPut_53 : decode cX5_isPut 53 = .ok (.iconst 0, 1) := by decide +kernel
theorem dX5_isPut_54 : decode cX5_isPut 54 = .ok (.istore_n 3, 1) := by decide +kernel
theorem dX5_isPut_55 : decode cX5_isPut 55 = .ok (.iinc 4 1, 3) := by decide +kernel
theorem dX5_isPut_58 : decode cX5_isPut 58 = .ok (.goto (-53), 3) := by decide +kernel
theorem dX5_isPut_61 : decode cX5_isPut 61 = .ok (.iload_n 3, 1) := by decide +kernel
theorem dX5_isPut_62 : decode cX5_isPut 62 = .ok (.ireturn, 1) := by decide +kernel
set_option maxRecDepth 20000 in
theorem ggX5_layLeads_X5_work : GoodIn wsX5_layLeads wsX5_work := goodIn_r _ [10, 11, 12, 3, 13, 14, 15, 16, 17, 18, 9, 19, 20, 21, 22, 23, 24, 25, 26, 27, 28, 29, 30, 31, 32, 33, 34, 35, 36, 37, 38, 39, 40, 41, 42, 43] (by decide +kernel) (by decide +kernel)
set_option maxRecDepth 20000 in
theorem gX5_layLeads_X5_work : GoodIn wsX5_layLeads (wsV RX5 103 RX5 yX5_work wsX5_work) := goodIn_app (goodIn_of _ (by decide +kernel)) ggX5_layLeads_X5_work
theorem dX5_layLeads_0 : decode cX5_layLeads 0 = .ok (.iconst 0, 1) := by decide +kernel
theorem dX5_layLeads_1 : decode cX5_layLeads 1 = .ok (.istore_n 1, 1) := by decide +kernel
theorem dX5_layLeads_2 : decode cX5_layLeads 2 = .ok (.iload_n 1, 1) := by decide +kernel
theorem dX5_layLeads_3 : decode cX5_layLeads 3 = .ok (.iconst 1, 1) := by decide +kernel
theorem dX5_layLeads_4 : decode cX5_layLeads 4 = .ok (.aload_n 0, 1) := by decide +kernel
theorem dX5_layLeads_5 : decode cX5_layLeads 5 = .ok (.getfield 85, 3) := by decide +kernel
theorem dX5_layLeads_8 : decode cX5_layLeads 8 = .ok (.ishl, 1) := by decide +kernel
theorem dX5_layLeads_9 : decode cX5_layLeads 9 = .ok (.if_icmp .ge 83, 3) := by decide +kernel
theorem dX5_layLeads_12 : decode cX5_layLeads 12 = .ok (.iconst 0, 1) := by decide +kernel
theorem dX5_layLeads_13 : decode cX5_layLeads 13 = .ok (.istore_n 2, 1) := by decide +kernel
theorem dX5_layLeads_14 : decode cX5_layLeads 14 = .ok (.iload_n 2, 1) := by decide +kernel
theorem dX5_layLeads_15 : decode cX5_layLeads 15 = .ok (.iconst 1, 1) := by decide +kernel
theorem dX5_layLeads_16 : decode cX5_layLeads 16 = .ok (.aload_n 0, 1) := by decide +kernel
theorem dX5_layLeads_17 : decode cX5_layLeads 17 = .ok (.getfield 88, 3) := by decide +kernel
theorem dX5_layLeads_20 : decode cX5_layLeads 20 = .ok (.ishl, 1) := by decide +kernel
theorem dX5_layLeads_21 : decode cX5_layLeads 21 = .ok (.if_icmp .ge 65, 3) := by decide +kernel
theorem dX5_layLeads_24 : decode cX5_layLeads 24 = .ok (.aload_n 0, 1) := by decide +kernel
theorem dX5_layLeads_25 : decode cX5_layLeads 25 = .ok (.iload_n 1, 1) := by decide +kernel
theorem dX5_layLeads_26 : decode cX5_layLeads 26 = .ok (.iload_n 2, 1) := by decide +kernel
theorem dX5_layLeads_27 : decode cX5_layLeads 27 = .ok (.invokevirtual 103, 3) := by decide +kernel
theorem dX5_layLeads_30 : decode cX5_layLeads 30 = .ok (.iconst 0, 1) := by decide +kernel
theorem dX5_layLeads_31 : decode cX5_layLeads 31 = .ok (.istore_n 3, 1) := by decide +kernel
theorem dX5_layLeads_32 : decode cX5_layLeads 32 = .ok (.iconst 0, 1) := by decide +kernel
theorem dX5_layLeads_33 : decode cX5_layLeads 33 = .ok (.istore 4, 2) := by decide +kernel
theorem dX5_layLeads_35 : decode cX5_layLeads 35 = .ok (.iload 4, 2) := by decide +kernel
theorem dX5_layLeads_37 : decode cX5_layLeads 37 = .ok (.aload_n 0, 1) := by decide +kernel
theorem dX5_layLeads_38 : decode cX5_layLeads 38 = .ok (.getfield 85, 3) := by decide +kernel
theorem dX5_layLeads_41 : decode cX5_layLeads 41 = .ok (.if_icmp .ge 27, 3) := by decide +kernel
theorem dX5_layLeads_44 : decode cX5_layLeads 44 = .ok (.iload_n 3, 1) := by decide +kernel
theorem dX5_layLeads_45 : decode cX5_layLeads 45 = .ok (.aload_n 0, 1) := by decide +kernel
theorem dX5_layLeads_46 : decode cX5_layLeads 46 = .ok (.getfield 50, 3) := by decide +kernel
theorem dX5_layLeads_49 : decode cX5_layLeads 49 = .ok (.aload_n 0, 1) := by decide +kernel
theorem dX5_layLeads_50 : decode cX5_layLeads 50 = .ok (.getfield 37, 3) := by decide +kernel
theorem dX5_layLeads_53 : decode cX5_layLeads 53 = .ok (.iload 4, 2) := by decide +kernel
theorem dX5_layLeads_55 : decode cX5_layLeads 55 = .ok (.iaload, 1) := by decide +kernel
theorem dX5_layLeads_56 : decode cX5_layLeads 56 = .ok (.iaload, 1) := by decide +kernel
theorem dX5_layLeads_57 : decode cX5_layLeads 57 = .ok (.iload 4, 2) := by decide +kernel
theorem dX5_layLeads_59 : decode cX5_layLeads 59 = .ok (.ishl, 1) := by decide +kernel
theorem dX5_layLeads_60 : decode cX5_layLeads 60 = .ok (.ior, 1) := by decide +kernel
theorem dX5_layLeads_61 : decode cX5_layLeads 61 = .ok (.istore_n 3, 1) := by decide +kernel
theorem dX5_layLeads_62 : decode cX5_layLeads 62 = .ok (.iinc 4 1, 3) := by decide +kernel
theorem dX5_layLeads_65 : decode cX5_layLeads 65 = .ok (.goto (-30), 3) := by decide +kernel
theorem dX5_layLeads_68 : decode cX5_layLeads 68 = .ok (.aload_n 0, 1) := by decide +kernel
theorem dX5_layLeads_69 : decode cX5_layLeads 69 = .ok (.getfield 53, 3) := by decide +kernel
theorem dX5_layLeads_72 : decode cX5_layLeads 72 = .ok (.bipush 16, 2) := by decide +kernel
theorem dX5_layLeads_74 : decode cX5_layLeads 74 = .ok (.iload_n 1, 1) := by decide +kernel
theorem dX5_layLeads_75 : decode cX5_layLeads 75 = .ok (.imul, 1) := by decide +kernel
theorem dX5_layLeads_76 : decode cX5_layLeads 76 = .ok (.iload_n 2, 1) := by decide +kernel
theorem dX5_layLeads_77 : decode cX5_layLeads 77 = .ok (.iadd, 1) := by decide +kernel
theorem dX5_layLeads_78 : decode cX5_layLeads 78 = .ok (.iload_n 3, 1) := by decide +kernel
theorem dX5_layLeads_79 : decode cX5_layLeads 79 = .ok (.iastore, 1) := by decide +kernel
theorem dX5_layLeads_80 : decode cX5_layLeads 80 = .ok (.iinc 2 1, 3) := by decide +kernel
theorem dX5_layLeads_83 : decode cX5_layLeads 83 = .ok (.goto (-69), 3) := by decide +kernel
theorem dX5_layLeads_86 : decode cX5_layLeads 86 = .ok (.iinc 1 1, 3) := by decide +kernel
theorem dX5_layLeads_89 : decode cX5_layLeads 89 = .ok (.goto (-87), 3) := by decide +kernel
theorem dX5_layLeads_92 : decode cX5_layLeads 92 = .ok (.return_, 1) := by decide +kernel
set_option maxRecDepth 20000 in
theorem ggX5_step_X5_isPut : GoodIn wsX5_step wsX5_isPut := goodIn_r _ [11, 4, 12, 13, 14, 15, 16, 17, 18, 19, 20, 21, 22, 23, 24, 25, 26, 27, 28, 29, 30, 31, 32, 33, 34, 35, 36] (by decide +kernel) (by decide +kernel)
set_option maxRecDepth 20000 in
theorem gX5_step_X5_isPut : GoodIn wsX5_step (wsV RX5 107 RX5 yX5_isPut wsX5_isPut) := goodIn_app (goodIn_of _ (by decide +kernel)) ggX5_step_X5_isPut
theorem dX5_step_0 : decode cX5_step 0 = .ok (.iconst 0, 1) := by decide +kernel
theorem dX5_step_1 : decode cX5_step 1 = .ok (.istore_n 3, 1) := by decide +kernel
theorem dX5_step_2 : decode cX5_step 2 = .ok (.iconst 0, 1) := by decide +kernel
theorem dX5_step_3 : decode cX5_step 3 = .ok (.istore 4, 2) := by decide +kernel
theorem dX5_step_5 : decode cX5_step 5 = .ok (.iload 4, 2) := by decide +kernel
theorem dX5_step_7 : decode cX5_step 7 = .ok (.aload_n 0, 1) := by decide +kernel
theorem dX5_step_8 : decode cX5_step 8 = .ok (.getfield 85, 3) := by decide +kernel
theorem dX5_step_11 : decode cX5_step 11 = .ok (.if_icmp .ge 29, 3) := by decide +kernel
theorem dX5_step_14 : decode cX5_step 14 = .ok (.iload_n 3, 1) := by decide +kernel
theorem dX5_step_15 : decode cX5_step 15 = .ok (.iload_n 1, 1) := by decide +kernel
theorem dX5_step_16 : decode cX5_step 16 = .ok (.iload 4, 2) := by decide +kernel
theorem dX5_step_18 : decode cX5_step 18 = .ok (.ishr, 1) := by decide +kernel
theorem dX5_step_19 : decode cX5_step 19 = .ok (.iconst 1, 1) := by decide +kernel
theorem dX5_step_20 : decode cX5_step 20 = .ok (.iand, 1) := by decide +kernel
theorem dX5_step_21 : decode cX5_step 21 = .ok (.aload_n 0, 1) := by decide +kernel
theorem dX5_step_22 : decode cX5_step 22 = .ok (.getfield 34, 3) := by decide +kernel
theorem dX5_step_25 : decode cX5_step 25 = .ok (.iload 4, 2) := by decide +kernel
theorem dX5_step_27 : decode cX5_step 27 = .ok (.iaload, 1) := by decide +kernel
theorem dX5_step_28 : decode cX5_step 28 = .ok (.imul, 1) := by decide +kernel
theorem dX5_step_29 : decode cX5_step 29 = .ok (.iload 4, 2) := by decide +kernel
theorem dX5_step_31 : decode cX5_step 31 = .ok (.ishl, 1) := by decide +kernel
theorem dX5_step_32 : decode cX5_step 32 = .ok (.ior, 1) := by decide +kernel
theorem dX5_step_33 : decode cX5_step 33 = .ok (.istore_n 3, 1) := by decide +kernel
theorem dX5_step_34 : decode cX5_step 34 = .ok (.iinc 4 1, 3) := by decide +kernel
theorem dX5_step_37 : decode cX5_step 37 = .ok (.goto (-32), 3) := by decide +kernel
theorem dX5_step_40 : decode cX5_step 40 = .ok (.iconst 0, 1) := by decide +kernel
theorem dX5_step_41 : decode cX5_step 41 = .ok (.istore 4, 2) := by decide +kernel
theorem dX5_step_43 : decode cX5_step 43 = .ok (.iload 4, 2) := by decide +kernel
theorem dX5_step_45 : decode cX5_step 45 = .ok (.bipush 64, 2) := by decide +kernel
theorem dX5_step_47 : decode cX5_step 47 = .ok (.if_icmp .ge 17, 3) := by decide +kernel
theorem dX5_step_50 : decode cX5_step 50 = .ok (.aload_n 0, 1) := by decide +kernel
theorem dX5_step_51 : decode cX5_step 51 = .ok (.getfield 59, 3) := by decide +kernel
theorem dX5_step_54 : decode cX5_step 54 = .ok (.iload 4, 2) := by decide +kernel
theorem dX5_step_56 : decode cX5_step 56 = .ok (.iconst 0, 1) := by decide +kernel
theorem dX5_step_57 : decode cX5_step 57 = .ok (.bastore, 1) := by decide +kernel
theorem dX5_step_58 : decode cX5_step 58 = .ok (.iinc 4 1, 3) := by decide +kernel
theorem dX5_step_61 : decode cX5_step 61 = .ok (.goto (-18), 3) := by decide +kernel
theorem dX5_step_64 : decode cX5_step 64 = .ok (.iconst 0, 1) := by decide +kernel
theorem dX5_step_65 : decode cX5_step 65 = .ok (.istore 4, 2) := by decide +kernel
theorem dX5_step_67 : decode cX5_step 67 = .ok (.iload 4, 2) := by decide +kernel
theorem dX5_step_69 : decode cX5_step 69 = .ok (.iconst 1, 1) := by decide +kernel
theorem dX5_step_70 : decode cX5_step 70 = .ok (.aload_n 0, 1) := by decide +kernel
theorem dX5_step_71 : decode cX5_step 71 = .ok (.getfield 88, 3) := by decide +kernel
theorem dX5_step_74 : decode cX5_step 74 = .ok (.ishl, 1) := by decide +kernel
theorem dX5_step_75 : decode cX5_step 75 = .ok (.if_icmp .ge 74, 3) := by decide +kernel
theorem dX5_step_78 : decode cX5_step 78 = .ok (.aload_n 0, 1) := by decide +kernel
theorem dX5_step_79 : decode cX5_step 79 = .ok (.iload 4, 2) := by decide +kernel
theorem dX5_step_81 : decode cX5_step 81 = .ok (.iload_n 2, 1) := by decide +kernel
theorem dX5_step_82 : decode cX5_step 82 = .ok (.invokevirtual 107, 3) := by decide +kernel
theorem dX5_step_85 : decode cX5_step 85 = .ok (.ifCond .eq 58, 3) := by decide +kernel
theorem dX5_step_88 : decode cX5_step 88 = .ok (.iconst 0, 1) := by decide +kernel
theorem dX5_step_89 : decode cX5_step 89 = .ok (.istore 5, 2) := by decide +kernel
theorem dX5_step_91 : decode cX5_step 91 = .ok (.iload 5, 2) := by decide +kernel
theorem dX5_step_93 : decode cX5_step 93 = .ok (.iconst 1, 1) := by decide +kernel
theorem dX5_step_94 : decode cX5_step 94 = .ok (.aload_n 0, 1) := by decide +kernel
theorem dX5_step_95 : decode cX5_step 95 = .ok (.getfield 85, 3) := by decide +kernel
theorem dX5_step_98 : decode cX5_step 98 = .ok (.ishl, 1) := by decide +kernel
theorem dX5_step_99 : decode cX5_step 99 = .ok (.if_icmp .ge 44, 3) := by decide +kernel
theorem dX5_step_102 : decode cX5_step 102 = .ok (.aload_n 0, 1) := by decide +kernel
theorem dX5_step_103 : decode cX5_step 103 = .ok (.getfield 56, 3) := by decide +kernel
theorem dX5_step_106 : decode cX5_step 106 = .ok (.iload 5, 2) := by decide +kernel
theorem dX5_step_108 : decode cX5_step 108 = .ok (.baload, 1) := by decide +kernel
theorem dX5_step_109 : decode cX5_step 109 = .ok (.ifCond .eq 28, 3) := by decide +kernel
theorem dX5_step_112 : decode cX5_step 112 = .ok (.aload_n 0, 1) := by decide +kernel
theorem dX5_step_113 : decode cX5_step 113 = .ok (.getfield 59, 3) := by decide +kernel
theorem dX5_step_116 : decode cX5_step 116 = .ok (.aload_n 0, 1) := by decide +kernel
theorem dX5_step_117 : decode cX5_step 117 = .ok (.getfield 53, 3) := by decide +kernel
theorem dX5_step_120 : decode cX5_step 120 = .ok (.bipush 16, 2) := by decide +kernel
theorem dX5_step_122 : decode cX5_step 122 = .ok (.iload 5, 2) := by decide +kernel
theorem dX5_step_124 : decode cX5_step 124 = .ok (.imul, 1) := by decide +kernel
theorem dX5_step_125 : decode cX5_step 125 = .ok (.iload 4, 2) := by decide +kernel
theorem dX5_step_127 : decode cX5_step 127 = .ok (.iadd, 1) := by decide +kernel
theorem dX5_step_128 : decode cX5_step 128 = .ok (.iaload, 1) := by decide +kernel
theorem dX5_step_129 : decode cX5_step 129 = .ok (.iload_n 1, 1) := by decide +kernel
theorem dX5_step_130 : decode cX5_step 130 = .ok (.iconst (-1), 1) := by decide +kernel
theorem dX5_step_131 : decode cX5_step 131 = .ok (.ixor, 1) := by decide +kernel
theorem dX5_step_132 : decode cX5_step 132 = .ok (.iand, 1) := by decide +kernel
theorem dX5_step_133 : decode cX5_step 133 = .ok (.iload_n 3, 1) := by decide +kernel
theorem dX5_step_134 : decode cX5_step 134 = .ok (.ior, 1) := by decide +kernel
theorem dX5_step_135 : decode cX5_step 135 = .ok (.iconst 1, 1) := by decide +kernel
theorem dX5_step_136 : decode cX5_step 136 = .ok (.bastore, 1) := by decide +kernel
theorem dX5_step_137 : decode cX5_step 137 = .ok (.iinc 5 1, 3) := by decide +kernel
theorem dX5_step_140 : decode cX5_step 140 = .ok (.goto (-49), 3) := by decide +kernel
theorem dX5_step_143 : decode cX5_step 143 = .ok (.iinc 4 1, 3) := by decide +kernel
theorem dX5_step_146 : decode cX5_step 146 = .ok (.goto (-79), 3) := by decide +kernel
theorem dX5_step_149 : decode cX5_step 149 = .ok (.iconst 0, 1) := by decide +kernel
theorem dX5_step_150 : decode cX5_step 150 = .ok (.istore 4, 2) := by decide +kernel
theorem dX5_step_152 : decode cX5_step 152 = .ok (.iload 4, 2) := by decide +kernel
theorem dX5_step_154 : decode cX5_step 154 = .ok (.bipush 64, 2) := by decide +kernel
theorem dX5_step_156 : decode cX5_step 156 = .ok (.if_icmp .ge 23, 3) := by decide +kernel
theorem dX5_step_159 : decode cX5_step 159 = .ok (.aload_n 0, 1) := by decide +kernel
theorem dX5_step_160 : decode cX5_step 160 = .ok (.getfield 56, 3) := by decide +kernel
theorem dX5_step_163 : decode cX5_step 163 = .ok (.iload 4, 2) := by decide +kernel
theorem dX5_step_165 : decode cX5_step 165 = .ok (.aload_n 0, 1) := by decide +kernel
theorem dX5_step_166 : decode cX5_step 166 = .ok (.getfield 59, 3) := by decide +kernel
theorem dX5_step_169 : decode cX5_step 169 = .ok (.iload 4, 2) := by decide +kernel
theorem dX5_step_171 : decode cX5_step 171 = .ok (.baload, 1) := by decide +kernel
theorem dX5_step_172 : decode cX5_step 172 = .ok (.bastore, 1) := by decide +kernel
theorem dX5_step_173 : decode cX5_step 173 = .ok (.iinc 4 1, 3) := by decide +kernel
theorem dX5_step_176 : decode cX5_step 176 = .ok (.goto (-24), 3) := by decide +kernel
theorem dX5_step_179 : decode cX5_step 179 = .ok (.return_, 1) := by decide +kernel
theorem dX5_many_0 : decode cX5_many 0 = .ok (.iconst 0, 1) := by decide +kernel
theorem dX5_many_1 : decode cX5_many 1 = .ok (.istore_n 1, 1) := by decide +kernel
theorem dX5_many_2 : decode cX5_many 2 = .ok (.iconst 0, 1) := by decide +kernel
theorem dX5_many_3 : decode cX5_many 3 = .ok (.istore_n 2, 1) := by decide +kernel
theorem dX5_many_4 : decode cX5_many 4 = .ok (.iload_n 2, 1) := by decide +kernel
theorem dX5_many_5 : decode cX5_many 5 = .ok (.bipush 64, 2) := by decide +kernel
theorem dX5_many_7 : decode cX5_many 7 = .ok (.if_icmp .ge 26, 3) := by decide +kernel
theorem dX5_many_10 : decode cX5_many 10 = .ok (.iload_n 1, 1) := by decide +kernel
theorem dX5_many_11 : decode cX5_many 11 = .ok (.aload_n 0, 1) := by decide +kernel
theorem dX5_many_12 : decode cX5_many 12 = .ok (.getfield 56, 3) := by decide +kernel
theorem dX5_many_15 : decode cX5_many 15 = .ok (.iload_n 2, 1) := by decide +kernel
theorem dX5_many_16 : decode cX5_many 16 = .ok (.baload, 1) := by decide +kernel
theorem dX5_many_17 : decode cX5_many 17 = .ok (.ifCond .eq 7, 3) := by decide +kernel
theorem dX5_many_20 : decode cX5_many 20 = .ok (.iconst 1, 1) := by decide +kernel
theorem dX5_many_21 : decode cX5_many 21 = .ok (.goto 4, 3) := by decide +kernel
theorem dX5_many_24 : decode cX5_many 24 = .ok (.iconst 0, 1) := by decide +kernel
theorem dX5_many_25 : decode cX5_many 25 = .ok (.iadd, 1) := by decide +kernel
theorem dX5_many_26 : decode cX5_many 26 = .ok (.istore_n 1, 1) := by decide +kernel
theorem dX5_many_27 : decode cX5_many 27 = .ok (.iinc 2 1, 3) := by decide +kernel
theorem dX5_many_30 : decode cX5_many 30 = .ok (.goto (-26), 3) := by decide +kernel
theorem dX5_many_33 : decode cX5_many 33 = .ok (.iload_n 1, 1) := by decide +kernel
theorem dX5_many_34 : decode cX5_many 34 = .ok (.ireturn, 1) := by decide +kernel
theorem dX5_resets_0 : decode cX5_resets 0 = .ok (.iconst 0, 1) := by decide +kernel
theorem dX5_resets_1 : decode cX5_resets 1 = .ok (.istore_n 1, 1) := by decide +kernel
theorem dX5_resets_2 : decode cX5_resets 2 = .ok (.iconst 0, 1) := by decide +kernel
theorem dX5_resets_3 : decode cX5_resets 3 = .ok (.istore_n 2, 1) := by decide +kernel
theorem dX5_resets_4 : decode cX5_resets 4 = .ok (.iload_n 2, 1) := by decide +kernel
theorem dX5_resets_5 : decode cX5_resets 5 = .ok (.aload_n 0, 1) := by decide +kernel
theorem dX5_resets_6 : decode cX5_resets 6 = .ok (.getfield 85, 3) := by decide +kernel
theorem dX5_resets_9 : decode cX5_resets 9 = .ok (.if_icmp .ge 44, 3) := by decide +kernel
theorem dX5_resets_12 : decode cX5_resets 12 = .ok (.iload_n 1, 1) := by decide +kernel
theorem dX5_resets_13 : decode cX5_resets 13 = .ok (.aload_n 0, 1) := by decide +kernel
theorem dX5_resets_14 : decode cX5_resets 14 = .ok (.getfield 31, 3) := by decide +kernel
theorem dX5_resets_17 : decode cX5_resets 17 = .ok (.iload_n 2, 1) := by decide +kernel
theorem dX5_resets_18 : decode cX5_resets 18 = .ok (.iaload, 1) := by decide +kernel
theorem dX5_resets_19 : decode cX5_resets 19 = .ok (.bipush (-9), 2) := by decide +kernel
theorem dX5_resets_21 : decode cX5_resets 21 = .ok (.if_icmp .eq 23, 3) := by decide +kernel
theorem dX5_resets_24 : decode cX5_resets 24 = .ok (.aload_n 0, 1) := by decide +kernel
theorem dX5_resets_25 : decode cX5_resets 25 = .ok (.getfield 40, 3) := by decide +kernel
theorem dX5_resets_28 : decode cX5_resets 28 = .ok (.aload_n 0, 1) := by decide +kernel
theorem dX5_resets_29 : decode cX5_resets 29 = .ok (.getfield 31, 3) := by decide +kernel
theorem dX5_resets_32 : decode cX5_resets 32 = .ok (.iload_n 2, 1) := by decide +kernel
theorem dX5_resets_33 : decode cX5_resets 33 = .ok (.iaload, 1) := by decide +kernel
theorem dX5_resets_34 : decode cX5_resets 34 = .ok (.baload, 1) := by decide +kernel
theorem dX5_resets_35 : decode cX5_resets 35 = .ok (.ifCond .eq 9, 3) := by decide +kernel
theorem dX5_resets_38 : decode cX5_resets 38 = .ok (.iconst 1, 1) := by decide +kernel
theorem dX5_resets_39 : decode cX5_resets 39 = .ok (.iload_n 2, 1) := by decide +kernel
theorem dX5_resets_40 : decode cX5_resets 40 = .ok (.ishl, 1) := by decide +kernel
theorem dX5_resets_41 : decode cX5_resets 41 = .ok (.goto 4, 3) := by decide +kernel
theorem dX5_resets_44 : decode cX5_resets 44 = .ok (.iconst 0, 1) := by decide +kernel
theorem dX5_resets_45 : decode cX5_resets 45 = .ok (.ior, 1) := by decide +kernel
theorem dX5_resets_46 : decode cX5_resets 46 = .ok (.istore_n 1, 1) := by decide +kernel
theorem dX5_resets_47 : decode cX5_resets 47 = .ok (.iinc 2 1, 3) := by decide +kernel
theorem dX5_resets_50 : decode cX5_resets 50 = .ok (.goto (-46), 3) := by decide +kernel
theorem dX5_resets_53 : decode cX5_resets 53 = .ok (.iload_n 1, 1) := by decide +kernel
theorem dX5_resets_54 : decode cX5_resets 54 = .ok (.ireturn, 1) := by decide +kernel
theorem dX5_load_0 : decode cX5_load 0 = .ok (.iconst 0, 1) := by decide +kernel
theorem dX5_load_1 : decode cX5_load 1 = .ok (.istore_n 2, 1) := by decide +kernel
theorem dX5_load_2 : decode cX5_load 2 = .ok (.iload_n 2, 1) := by decide +kernel
theorem dX5_load_3 : decode cX5_load 3 = .ok (.bipush 64, 2) := by decide +kernel
theorem dX5_load_5 : decode cX5_load 5 = .ok (.if_icmp .ge 43, 3) := by decide +kernel
theorem dX5_load_8 : decode cX5_load 8 = .ok (.aload_n 0, 1) := by decide +kernel
theorem dX5_load_9 : decode cX5_load 9 = .ok (.getfield 56, 3) := by decide +kernel
theorem dX5_load_12 : decode cX5_load 12 = .ok (.iload_n 2, 1) := by decide +kernel
theorem dX5_load_13 : decode cX5_load 13 = .ok (.iload_n 1, 1) := by decide +kernel
theorem dX5_load_14 : decode cX5_load 14 = .ok (.ifCond .eq 21, 3) := by decide +kernel
theorem dX5_load_17 : decode cX5_load 17 = .ok (.iload_n 2, 1) := by decide +kernel
theorem dX5_load_18 : decode cX5_load 18 = .ok (.iconst 1, 1) := by decide +kernel
theorem dX5_load_19 : decode cX5_load 19 = .ok (.aload_n 0, 1) := by decide +kernel
theorem dX5_load_20 : decode cX5_load 20 = .ok (.getfield 85, 3) := by decide +kernel
theorem dX5_load_23 : decode cX5_load 23 = .ok (.ishl, 1) := by decide +kernel
theorem dX5_load_24 : decode cX5_load 24 = .ok (.if_icmp .ge 7, 3) := by decide +kernel
theorem dX5_load_27 : decode cX5_load 27 = .ok (.iconst 1, 1) := by decide +kernel
theorem dX5_load_28 : decode cX5_load 28 = .ok (.goto 13, 3) := by decide +kernel
theorem dX5_load_31 : decode cX5_load 31 = .ok (.iconst 0, 1) := by decide +kernel
theorem dX5_load_32 : decode cX5_load 32 = .ok (.goto 9, 3) := by decide +kernel
theorem dX5_load_35 : decode cX5_load 35 = .ok (.aload_n 0, 1) := by decide +kernel
theorem dX5_load_36 : decode cX5_load 36 = .ok (.getfield 44, 3) := by decide +kernel
theorem dX5_load_39 : decode cX5_load 39 = .ok (.iload_n 2, 1) := by decide +kernel
theorem dX5_load_40 : decode cX5_load 40 = .ok (.baload, 1) := by decide +kernel
theorem dX5_load_41 : decode cX5_load 41 = .ok (.bastore, 1) := by decide +kernel
theorem dX5_load_42 : decode cX5_load 42 = .ok (.iinc 2 1, 3) := by decide +kernel
theorem dX5_load_45 : decode cX5_load 45 = .ok (.goto (-43), 3) := by decide +kernel
theorem dX5_load_48 : decode cX5_load 48 = .ok (.return_, 1) := by decide +kernel
set_option maxRecDepth 20000 in
theorem ggX5_line_X5_in : GoodIn wsX5_line wsX5_in := goodIn_r _ [5] (by decide +kernel) (by decide +kernel)
set_option maxRecDepth 20000 in
theorem gX5_line_X5_in : GoodIn wsX5_line (va_wsS RX5 78 yX5_in wsX5_in) := goodIn_app (goodIn_of _ (by decide +kernel)) ggX5_line_X5_in
theorem dX5_line_0 : decode cX5_line 0 = .ok (.iload_n 1, 1) := by decide +kernel
theorem dX5_line_1 : decode cX5_line 1 = .ok (.iconst 0, 1) := by decide +kernel
theorem dX5_line_2 : decode cX5_line 2 = .ok (.iconst 3, 1) := by decide +kernel
theorem dX5_line_3 : decode cX5_line 3 = .ok (.invokestatic 78, 3) := by decide +kernel
theorem dX5_line_6 : decode cX5_line 6 = .ok (.ifCond .ne 5, 3) := by decide +kernel
theorem dX5_line_9 : decode cX5_line 9 = .ok (.iconst (-1), 1) := by decide +kernel
theorem dX5_line_10 : decode cX5_line 10 = .ok (.ireturn, 1) := by decide +kernel
theorem dX5_line_11 : decode cX5_line 11 = .ok (.aload_n 0, 1) := by decide +kernel
theorem dX5_line_12 : decode cX5_line 12 = .ok (.getfield 40, 3) := by decide +kernel
theorem dX5_line_15 : decode cX5_line 15 = .ok (.iload_n 1, 1) := by decide +kernel
theorem dX5_line_16 : decode cX5_line 16 = .ok (.baload, 1) := by decide +kernel
theorem dX5_line_17 : decode cX5_line 17 = .ok (.ifCond .eq 7, 3) := by decide +kernel
theorem dX5_line_20 : decode cX5_line 20 = .ok (.iconst 1, 1) := by decide +kernel
theorem dX5_line_21 : decode cX5_line 21 = .ok (.goto 4, 3) := by decide +kernel
theorem dX5_line_24 : decode cX5_line 24 = .ok (.iconst 0, 1) := by decide +kernel
theorem dX5_line_25 : decode cX5_line 25 = .ok (.istore_n 3, 1) := by decide +kernel
theorem dX5_line_26 : decode cX5_line 26 = .ok (.aload_n 0, 1) := by decide +kernel
theorem dX5_line_27 : decode cX5_line 27 = .ok (.getfield 40, 3) := by decide +kernel
theorem dX5_line_30 : decode cX5_line 30 = .ok (.iload_n 1, 1) := by decide +kernel
theorem dX5_line_31 : decode cX5_line 31 = .ok (.iload_n 2, 1) := by decide +kernel
theorem dX5_line_32 : decode cX5_line 32 = .ok (.bastore, 1) := by decide +kernel
theorem dX5_line_33 : decode cX5_line 33 = .ok (.iload_n 3, 1) := by decide +kernel
theorem dX5_line_34 : decode cX5_line 34 = .ok (.ireturn, 1) := by decide +kernel
set_option maxRecDepth 20000 in
theorem ggX5_set_X5_isNode : GoodIn wsX5_set wsX5_isNode := goodIn_r _ [8, 9, 10, 11, 7, 12, 13, 14, 15, 16, 17, 18, 19, 20, 21, 22, 23, 24, 25, 26, 27, 28, 29, 30, 31, 32, 33, 34, 35, 36] (by decide +kernel) (by decide +kernel)
set_option maxRecDepth 20000 in
theorem gX5_set_X5_isNode : GoodIn wsX5_set (wsV RX5 95 RX5 yX5_isNode wsX5_isNode) := goodIn_app (goodIn_of _ (by decide +kernel)) ggX5_set_X5_isNode
set_option maxRecDepth 20000 in
theorem ggX5_set_X5_in : GoodIn wsX5_set wsX5_in := goodIn_r _ [12] (by decide +kernel) (by decide +kernel)
set_option maxRecDepth 20000 in
theorem gX5_set_X5_in : GoodIn wsX5_set (va_wsS RX5 78 yX5_in wsX5_in) := goodIn_app (goodIn_of _ (by decide +kernel)) ggX5_set_X5_in
theorem dX5_set_0 : decode cX5_set 0 = .ok (.aload_n 0, 1) := by decide +kernel
theorem dX5_set_1 : decode cX5_set 1 = .ok (.iload_n 1, 1) := by decide +kernel
theorem dX5_set_2 : decode cX5_set 2 = .ok (.invokevirtual 95, 3) := by decide +kernel
theorem dX5_set_5 : decode cX5_set 5 = .ok (.ifCond .ne 5, 3) := by decide +kernel
theorem dX5_set_8 : decode cX5_set 8 = .ok (.iconst (-1), 1) := by decide +kernel
theorem dX5_set_9 : decode cX5_set 9 = .ok (.ireturn, 1) := by decide +kernel
theorem dX5_set_10 : decode cX5_set 10 = .ok (.aload_n 0, 1) := by decide +kernel
theorem dX5_set_11 : decode cX5_set 11 = .ok (.getfield 7, 3) := by decide +kernel
theorem dX5_set_14 : decode cX5_set 14 = .ok (.iload_n 1, 1) := by decide +kernel
theorem dX5_set_15 : decode cX5_set 15 = .ok (.iaload, 1) := by decide +kernel
theorem dX5_set_16 : decode cX5_set 16 = .ok (.ifCond .eq 6, 3) := by decide +kernel
theorem dX5_set_19 : decode cX5_set 19 = .ok (.bipush (-3), 2) := by decide +kernel
theorem dX5_set_21 : decode cX5_set 21 = .ok (.ireturn, 1) := by decide +kernel
theorem dX5_set_22 : decode cX5_set 22 = .ok (.iload_n 2, 1) := by decide +kernel
theorem dX5_set_23 : decode cX5_set 23 = .ok (.iconst 0, 1) := by decide +kernel
theorem dX5_set_24 : decode cX5_set 24 = .ok (.iconst 2, 1) := by decide +kernel
theorem dX5_set_25 : decode cX5_set 25 = .ok (.invokestatic 78, 3) := by decide +kernel
theorem dX5_set_28 : decode cX5_set 28 = .ok (.ifCond .ne 6, 3) := by decide +kernel
theorem dX5_set_31 : decode cX5_set 31 = .ok (.bipush (-2), 2) := by decide +kernel
theorem dX5_set_33 : decode cX5_set 33 = .ok (.ireturn, 1) := by decide +kernel
theorem dX5_set_34 : decode cX5_set 34 = .ok (.aload_n 0, 1) := by decide +kernel
theorem dX5_set_35 : decode cX5_set 35 = .ok (.getfield 25, 3) := by decide +kernel
theorem dX5_set_38 : decode cX5_set 38 = .ok (.aload_n 0, 1) := by decide +kernel
theorem dX5_set_39 : decode cX5_set 39 = .ok (.getfield 13, 3) := by decide +kernel
theorem dX5_set_42 : decode cX5_set 42 = .ok (.iload_n 1, 1) := by decide +kernel
theorem dX5_set_43 : decode cX5_set 43 = .ok (.iaload, 1) := by decide +kernel
theorem dX5_set_44 : decode cX5_set 44 = .ok (.iaload, 1) := by decide +kernel
theorem dX5_set_45 : decode cX5_set 45 = .ok (.istore_n 3, 1) := by decide +kernel
theorem dX5_set_46 : decode cX5_set 46 = .ok (.aload_n 0, 1) := by decide +kernel
theorem dX5_set_47 : decode cX5_set 47 = .ok (.getfield 25, 3) := by decide +kernel
theorem dX5_set_50 : decode cX5_set 50 = .ok (.aload_n 0, 1) := by decide +kernel
theorem dX5_set_51 : decode cX5_set 51 = .ok (.getfield 13, 3) := by decide +kernel
theorem dX5_set_54 : decode cX5_set 54 = .ok (.iload_n 1, 1) := by decide +kernel
theorem dX5_set_55 : decode cX5_set 55 = .ok (.iaload, 1) := by decide +kernel
theorem dX5_set_56 : decode cX5_set 56 = .ok (.iload_n 2, 1) := by decide +kernel
theorem dX5_set_57 : decode cX5_set 57 = .ok (.iastore, 1) := by decide +kernel
theorem dX5_set_58 : decode cX5_set 58 = .ok (.iload_n 3, 1) := by decide +kernel
theorem dX5_set_59 : decode cX5_set 59 = .ok (.ireturn, 1) := by decide +kernel
set_option maxRecDepth 20000 in
theorem ggX5_workParts_X5_partGate : GoodIn wsX5_workParts wsX5_partGate := goodIn_r _ [13] (by decide +kernel) (by decide +kernel)
set_option maxRecDepth 20000 in
theorem gX5_workParts_X5_partGate : GoodIn wsX5_workParts (va_wsS RX5 111 yX5_partGate wsX5_partGate) := goodIn_app (goodIn_of _ (by decide +kernel)) ggX5_workParts_X5_partGate
theorem dX5_workParts_0 : decode cX5_workParts 0 = .ok (.iconst 0, 1) := by decide +kernel
theorem dX5_workParts_1 : decode cX5_workParts 1 = .ok (.istore_n 1, 1) := by decide +kernel
theorem dX5_workParts_2 : decode cX5_workParts 2 = .ok (.iload_n 1, 1) := by decide +kernel
theorem dX5_workParts_3 : decode cX5_workParts 3 = .ok (.aload_n 0, 1) := by decide +kernel
theorem dX5_workParts_4 : decode cX5_workParts 4 = .ok (.getfield 74, 3) := by decide +kernel
theorem dX5_workParts_7 : decode cX5_workParts 7 = .ok (.if_icmp .ge 116, 3) := by decide +kernel
theorem dX5_workParts_10 : decode cX5_workParts 10 = .ok (.aload_n 0, 1) := by decide +kernel
theorem dX5_workParts_11 : decode cX5_workParts 11 = .ok (.getfield 13, 3) := by decide +kernel
theorem dX5_workParts_14 : decode cX5_workParts 14 = .ok (.iload_n 1, 1) := by decide +kernel
theorem dX5_workParts_15 : decode cX5_workParts 15 = .ok (.iaload, 1) := by decide +kernel
theorem dX5_workParts_16 : decode cX5_workParts 16 = .ok (.istore_n 2, 1) := by decide +kernel
theorem dX5_workParts_17 : decode cX5_workParts 17 = .ok (.aload_n 0, 1) := by decide +kernel
theorem dX5_workParts_18 : decode cX5_workParts 18 = .ok (.getfield 7, 3) := by decide +kernel
theorem dX5_workParts_21 : decode cX5_workParts 21 = .ok (.iload_n 1, 1) := by decide +kernel
theorem dX5_workParts_22 : decode cX5_workParts 22 = .ok (.iaload, 1) := by decide +kernel
theorem dX5_workParts_23 : decode cX5_workParts 23 = .ok (.iconst 2, 1) := by decide +kernel
theorem dX5_workParts_24 : decode cX5_workParts 24 = .ok (.if_icmp .ne 49, 3) := by decide +kernel
theorem dX5_workParts_27 : decode cX5_workParts 27 = .ok (.aload_n 0, 1) := by decide +kernel
theorem dX5_workParts_28 : decode cX5_workParts 28 = .ok (.getfield 50, 3) := by decide +kernel
theorem dX5_workParts_31 : decode cX5_workParts 31 = .ok (.iload_n 1, 1) := by decide +kernel
theorem dX5_workParts_32 : decode cX5_workParts 32 = .ok (.iload_n 2, 1) := by decide +kernel
theorem dX5_workParts_33 : decode cX5_workParts 33 = .ok (.aload_n 0, 1) := by decide +kernel
theorem dX5_workParts_34 : decode cX5_workParts 34 = .ok (.getfield 50, 3) := by decide +kernel
theorem dX5_workParts_37 : decode cX5_workParts 37 = .ok (.aload_n 0, 1) := by decide +kernel
theorem dX5_workParts_38 : decode cX5_workParts 38 = .ok (.getfield 16, 3) := by decide +kernel
theorem dX5_workParts_41 : decode cX5_workParts 41 = .ok (.iload_n 1, 1) := by decide +kernel
theorem dX5_workParts_42 : decode cX5_workParts 42 = .ok (.iaload, 1) := by decide +kernel
theorem dX5_workParts_43 : decode cX5_workParts 43 = .ok (.iaload, 1) := by decide +kernel
theorem dX5_workParts_44 : decode cX5_workParts 44 = .ok (.aload_n 0, 1) := by decide +kernel
theorem dX5_workParts_45 : decode cX5_workParts 45 = .ok (.getfield 50, 3) := by decide +kernel
theorem dX5_workParts_48 : decode cX5_workParts 48 = .ok (.aload_n 0, 1) := by decide +kernel
theorem dX5_workParts_49 : decode cX5_workParts 49 = .ok (.getfield 19, 3) := by decide +kernel
theorem dX5_workParts_52 : decode cX5_workParts 52 = .ok (.iload_n 1, 1) := by decide +kernel
theorem dX5_workParts_53 : decode cX5_workParts 53 = .ok (.iaload, 1) := by decide +kernel
theorem dX5_workParts_54 : decode cX5_workParts 54 = .ok (.iaload, 1) := by decide +kernel
theorem dX5_workParts_55 : decode cX5_workParts 55 = .ok (.aload_n 0, 1) := by decide +kernel
theorem dX5_workParts_56 : decode cX5_workParts 56 = .ok (.getfield 50, 3) := by decide +kernel
theorem dX5_workParts_59 : decode cX5_workParts 59 = .ok (.aload_n 0, 1) := by decide +kernel
theorem dX5_workParts_60 : decode cX5_workParts 60 = .ok (.getfield 22, 3) := by decide +kernel
theorem dX5_workParts_63 : decode cX5_workParts 63 = .ok (.iload_n 1, 1) := by decide +kernel
theorem dX5_workParts_64 : decode cX5_workParts 64 = .ok (.iaload, 1) := by decide +kernel
theorem dX5_workParts_65 : decode cX5_workParts 65 = .ok (.iaload, 1) := by decide +kernel
theorem dX5_workParts_66 : decode cX5_workParts 66 = .ok (.invokestatic 111, 3) := by decide +kernel
theorem dX5_workParts_69 : decode cX5_workParts 69 = .ok (.iastore, 1) := by decide +kernel
theorem dX5_workParts_70 : decode cX5_workParts 70 = .ok (.goto 47, 3) := by decide +kernel
theorem dX5_workParts_73 : decode cX5_workParts 73 = .ok (.aload_n 0, 1) := by decide +kernel
theorem dX5_workParts_74 : decode cX5_workParts 74 = .ok (.getfield 50, 3) := by decide +kernel
theorem dX5_workParts_77 : decode cX5_workParts 77 = .ok (.iload_n 1, 1) := by decide +kernel
theorem dX5_workParts_78 : decode cX5_workParts 78 = .ok (.aload_n 0, 1) := by decide +kernel
theorem dX5_workParts_79 : decode cX5_workParts 79 = .ok (.getfield 7, 3) := by decide +kernel
theorem dX5_workParts_82 : decode cX5_workParts 82 = .ok (.iload_n 1, 1) := by decide +kernel
theorem dX5_workParts_83 : decode cX5_workParts 83 = .ok (.iaload, 1) := by decide +kernel
theorem dX5_workParts_84 : decode cX5_workParts 84 = .ok (.iconst 1, 1) := by decide +kernel
theorem dX5_workParts_85 : decode cX5_workParts 85 = .ok (.if_icmp .ne 7, 3) := by decide +kernel
theorem dX5_workParts_88 : decode cX5_workParts 88 = .ok (.iload_n 2, 1) := by decide +kernel
theorem dX5_workParts_89 : decode cX5_workParts 89 = .ok (.goto 27, 3) := by decide +kernel
theorem dX5_workParts_92 : decode cX5_workParts 92 = .ok (.aload_n 0, 1) := by decide +kernel
theorem dX5_workParts_93 : decode cX5_workParts 93 = .ok (.getfield 7, 3) := by decide +kernel
theorem dX5_workParts_96 : decode cX5_workParts 96 = .ok (.iload_n 1, 1) := by decide +kernel
theorem dX5_workParts_97 : decode cX5_workParts 97 = .ok (.iaload, 1) := by decide +kernel
theorem dX5_workParts_98 : decode cX5_workParts 98 = .ok (.ifCond .ne 12, 3) := by decide +kernel
theorem dX5_workParts_101 : decode cX5_workParts 101 = .ok (.aload_n 0, 1) := by decide +kernel
theorem dX5_workParts_102 : decode cX5_workParts 102 = .ok (.getfield 25, 3) := by decide +kernel
theorem dX5_workParts_105 : decode cX5_workParts 105 = .ok (.iload_n 2, 1) := by decide +kernel
theorem dX5_workParts_106 : decode cX5_workParts 106 = .ok (.iaload, 1) := by decide +kernel
theorem dX5_workParts_107 : decode cX5_workParts 107 = .ok (.goto 9, 3) := by decide +kernel
theorem dX5_workParts_110 : decode cX5_workParts 110 = .ok (.aload_n 0, 1) := by decide +kernel
theorem dX5_workParts_111 : decode cX5_workParts 111 = .ok (.getfield 47, 3) := by decide +kernel
theorem dX5_workParts_114 : decode cX5_workParts 114 = .ok (.iload_n 2, 1) := by decide +kernel
theorem dX5_workParts_115 : decode cX5_workParts 115 = .ok (.iaload, 1) := by decide +kernel
theorem dX5_workParts_116 : decode cX5_workParts 116 = .ok (.iastore, 1) := by decide +kernel
theorem dX5_workParts_117 : decode cX5_workParts 117 = .ok (.iinc 1 1, 3) := by decide +kernel
theorem dX5_workParts_120 : decode cX5_workParts 120 = .ok (.goto (-118), 3) := by decide +kernel
theorem dX5_workParts_123 : decode cX5_workParts 123 = .ok (.return_, 1) := by decide +kernel
theorem dX5_partGate_0 : decode cX5_partGate 0 = .ok (.iload_n 0, 1) := by decide +kernel
theorem dX5_partGate_1 : decode cX5_partGate 1 = .ok (.tableswitch 118 0 3 #[31, 44, 72, 100], 31) := by decide +kernel
theorem dX5_partGate_32 : decode cX5_partGate 32 = .ok (.iload_n 1, 1) := by decide +kernel
theorem dX5_partGate_33 : decode cX5_partGate 33 = .ok (.iconst 2, 1) := by decide +kernel
theorem dX5_partGate_34 : decode cX5_partGate 34 = .ok (.if_icmp .ne 7, 3) := by decide +kernel
theorem dX5_partGate_37 : decode cX5_partGate 37 = .ok (.iconst 2, 1) := by decide +kernel
theorem dX5_partGate_38 : decode cX5_partGate 38 = .ok (.goto 6, 3) := by decide +kernel
theorem dX5_partGate_41 : decode cX5_partGate 41 = .ok (.iconst 1, 1) := by decide +kernel
theorem dX5_partGate_42 : decode cX5_partGate 42 = .ok (.iload_n 1, 1) := by decide +kernel
theorem dX5_partGate_43 : decode cX5_partGate 43 = .ok (.isub, 1) := by decide +kernel
theorem dX5_partGate_44 : decode cX5_partGate 44 = .ok (.ireturn, 1) := by decide +kernel
theorem dX5_partGate_45 : decode cX5_partGate 45 = .ok (.iload_n 1, 1) := by decide +kernel
theorem dX5_partGate_46 : decode cX5_partGate 46 = .ok (.ifCond .eq 7, 3) := by decide +kernel
theorem dX5_partGate_49 : decode cX5_partGate 49 = .ok (.iload_n 2, 1) := by decide +kernel
theorem dX5_partGate_50 : decode cX5_partGate 50 = .ok (.ifCond .ne 7, 3) := by decide +kernel
theorem dX5_partGate_53 : decode cX5_partGate 53 = .ok (.iconst 0, 1) := by decide +kernel
theorem dX5_partGate_54 : decode cX5_partGate 54 = .ok (.goto 18, 3) := by decide +kernel
theorem dX5_partGate_57 : decode cX5_partGate 57 = .ok (.iload_n 1, 1) := by decide +kernel
theorem dX5_partGate_58 : decode cX5_partGate 58 = .ok (.iconst 1, 1) := by decide +kernel
theorem dX5_partGate_59 : decode cX5_partGate 59 = .ok (.if_icmp .ne 12, 3) := by decide +kernel
theorem dX5_partGate_62 : decode cX5_partGate 62 = .ok (.iload_n 2, 1) := by decide +kernel
theorem dX5_partGate_63 : decode cX5_partGate 63 = .ok (.iconst 1, 1) := by decide +kernel
theorem dX5_partGate_64 : decode cX5_partGate 64 = .ok (.if_icmp .ne 7, 3) := by decide +kernel
theorem dX5_partGate_67 : decode cX5_partGate 67 = .ok (.iconst 1, 1) := by decide +kernel
theorem dX5_partGate_68 : decode cX5_partGate 68 = .ok (.goto 4, 3) := by decide +kernel
theorem dX5_partGate_71 : decode cX5_partGate 71 = .ok (.iconst 2, 1) := by decide +kernel
theorem dX5_partGate_72 : decode cX5_partGate 72 = .ok (.ireturn, 1) := by decide +kernel
theorem dX5_partGate_73 : decode cX5_partGate 73 = .ok (.iload_n 1, 1) := by decide +kernel
theorem dX5_partGate_74 : decode cX5_partGate 74 = .ok (.iconst 1, 1) := by decide +kernel
theorem dX5_partGate_75 : decode cX5_partGate 75 = .ok (.if_icmp .eq 8, 3) := by decide +kernel
theorem dX5_partGate_78 : decode cX5_partGate 78 = .ok (.iload_n 2, 1) := by decide +kernel
theorem dX5_partGate_79 : decode cX5_partGate 79 = .ok (.iconst 1, 1) := by decide +kernel
theorem dX5_partGate_80 : decode cX5_partGate 80 = .ok (.if_icmp .ne 7, 3) := by decide +kernel
theorem dX5_partGate_83 : decode cX5_partGate 83 = .ok (.iconst 1, 1) := by decide +kernel
theorem dX5_partGate_84 : decode cX5_partGate 84 = .ok (.goto 16, 3) := by decide +kernel
theorem dX5_partGate_87 : decode cX5_partGate 87 = .ok (.iload_n 1, 1) := by decide +kernel
theorem dX5_partGate_88 : decode cX5_partGate 88 = .ok (.ifCond .ne 11, 3) := by decide +kernel
theorem dX5_partGate_91 : decode cX5_partGate 91 = .ok (.iload_n 2, 1) := by decide +kernel
theorem dX5_partGate_92 : decode cX5_partGate 92 = .ok (.ifCond .ne 7, 3) := by decide +kernel
theorem dX5_partGate_95 : decode cX5_partGate 95 = .ok (.iconst 0, 1) := by decide +kernel
theorem dX5_partGate_96 : decode cX5_partGate 96 = .ok (.goto 4, 3) := by decide +kernel
theorem dX5_partGate_99 : decode cX5_partGate 99 = .ok (.iconst 2, 1) := by decide +kernel
theorem dX5_partGate_100 : decode cX5_partGate 100 = .ok (.ireturn, 1) := by decide +kernel
theorem dX5_partGate_101 : decode cX5_partGate 101 = .ok (.iload_n 1, 1) := by decide +kernel
theorem dX5_partGate_102 : decode cX5_partGate 102 = .ok (.iconst 2, 1) := by decide +kernel
theorem dX5_partGate_103 : decode cX5_partGate 103 = .ok (.if_icmp .eq 8, 3) := by decide +kernel
theorem dX5_partGate_106 : decode cX5_partGate 106 = .ok (.iload_n 2, 1) := by decide +kernel
theorem dX5_partGate_107 : decode cX5_partGate 107 = .ok (.iconst 2, 1) := by decide +kernel
theorem dX5_partGate_108 : decode cX5_partGate 108 = .ok (.if_icmp .ne 7, 3) := by decide +kernel
theorem dX5_partGate_111 : decode cX5_partGate 111 = .ok (.iconst 2, 1) := by decide +kernel
theorem dX5_partGate_112 : decode cX5_partGate 112 = .ok (.goto 6, 3) := by decide +kernel
theorem dX5_partGate_115 : decode cX5_partGate 115 = .ok (.iload_n 1, 1) := by decide +kernel
theorem dX5_partGate_116 : decode cX5_partGate 116 = .ok (.iload_n 2, 1) := by decide +kernel
theorem dX5_partGate_117 : decode cX5_partGate 117 = .ok (.ixor, 1) := by decide +kernel
theorem dX5_partGate_118 : decode cX5_partGate 118 = .ok (.ireturn, 1) := by decide +kernel
theorem dX5_partGate_119 : decode cX5_partGate 119 = .ok (.iload_n 1, 1) := by decide +kernel
theorem dX5_partGate_120 : decode cX5_partGate 120 = .ok (.iconst 1, 1) := by decide +kernel
theorem dX5_partGate_121 : decode cX5_partGate 121 = .ok (.if_icmp .ne 7, 3) := by decide +kernel
theorem dX5_partGate_124 : decode cX5_partGate 124 = .ok (.iload_n 2, 1) := by decide +kernel
theorem dX5_partGate_125 : decode cX5_partGate 125 = .ok (.goto 21, 3) := by decide +kernel
theorem dX5_partGate_128 : decode cX5_partGate 128 = .ok (.iload_n 1, 1) := by decide +kernel
theorem dX5_partGate_129 : decode cX5_partGate 129 = .ok (.ifCond .ne 7, 3) := by decide +kernel
theorem dX5_partGate_132 : decode cX5_partGate 132 = .ok (.iload_n 3, 1) := by decide +kernel
theorem dX5_partGate_133 : decode cX5_partGate 133 = .ok (.goto 13, 3) := by decide +kernel
theorem dX5_partGate_136 : decode cX5_partGate 136 = .ok (.iload_n 2, 1) := by decide +kernel
theorem dX5_partGate_137 : decode cX5_partGate 137 = .ok (.iload_n 3, 1) := by decide +kernel
theorem dX5_partGate_138 : decode cX5_partGate 138 = .ok (.if_icmp .ne 7, 3) := by decide +kernel
theorem dX5_partGate_141 : decode cX5_partGate 141 = .ok (.iload_n 2, 1) := by decide +kernel
theorem dX5_partGate_142 : decode cX5_partGate 142 = .ok (.goto 4, 3) := by decide +kernel
theorem dX5_partGate_145 : decode cX5_partGate 145 = .ok (.iconst 2, 1) := by decide +kernel
theorem dX5_partGate_146 : decode cX5_partGate 146 = .ok (.ireturn, 1) := by decide +kernel
set_option maxRecDepth 20000 in
theorem ggX5_tick_X5_in : GoodIn wsX5_tick wsX5_in := goodIn_r _ [12] (by decide +kernel) (by decide +kernel)
set_option maxRecDepth 20000 in
theorem gX5_tick_X5_in : GoodIn wsX5_tick (va_wsS RX5 78 yX5_in wsX5_in) := goodIn_app (goodIn_of _ (by decide +kernel)) ggX5_tick_X5_in
set_option maxRecDepth 20000 in
theorem ggX5_tick_X5_layLeads : GoodIn wsX5_tick wsX5_layLeads := goodIn_r _ [16, 1, 17, 4, 5, 18, 19, 20, 21, 11, 22, 23, 24, 25, 26, 27, 28, 29, 30, 31, 63, 64, 65, 66, 67, 68, 69, 70, 71, 72, 73, 74, 75, 76, 77, 78, 79, 80, 81, 82, 83, 84, 85, 86] (by decide +kernel) (by decide +kernel)
set_option maxRecDepth 20000 in
theorem gX5_tick_X5_layLeads : GoodIn wsX5_tick (wsV RX5 114 RX5 yX5_layLeads wsX5_layLeads) := goodIn_app (goodIn_of _ (by decide +kernel)) ggX5_tick_X5_layLeads
set_option maxRecDepth 20000 in
theorem ggX5_tick_X5_load : GoodIn wsX5_tick wsX5_load := goodIn_r _ [35, 8, 1, 7, 63, 64, 65, 66, 67, 68, 69, 70, 71, 72, 73, 74, 75, 76, 77, 78, 79, 80, 81, 82, 83, 84, 85, 86] (by decide +kernel) (by decide +kernel)
set_option maxRecDepth 20000 in
theorem gX5_tick_X5_load : GoodIn wsX5_tick (wsV RX5 117 RX5 yX5_load wsX5_load) := goodIn_app (goodIn_of _ (by decide +kernel)) ggX5_tick_X5_load
set_option maxRecDepth 20000 in
theorem ggX5_tick_X5_resets : GoodIn wsX5_tick wsX5_resets := goodIn_r _ [39, 1, 40, 41, 63, 64, 65, 66, 67, 68, 69, 70, 71, 72, 73, 74, 75, 76, 77, 78, 79, 80, 81, 82, 83, 84, 85, 86] (by decide +kernel) (by decide +kernel)
set_option maxRecDepth 20000 in
theorem gX5_tick_X5_resets : GoodIn wsX5_tick (wsV RX5 121 RX5 yX5_resets wsX5_resets) := goodIn_app (goodIn_of _ (by decide +kernel)) ggX5_tick_X5_resets
set_option maxRecDepth 20000 in
theorem ggX5_tick_X5_step : GoodIn wsX5_tick wsX5_step := goodIn_r _ [45, 1, 3, 46, 17, 8, 18, 47, 48, 49, 11, 50, 51, 63, 64, 65, 66, 67, 68, 69, 70, 71, 72, 73, 74, 75, 76, 77, 78, 79, 80, 81, 82, 83, 84, 85, 86] (by decide +kernel) (by decide +kernel)
set_option maxRecDepth 20000 in
theorem gX5_tick_X5_step : GoodIn wsX5_tick (wsV RX5 125 RX5 yX5_step wsX5_step) := goodIn_app (goodIn_of _ (by decide +kernel)) ggX5_tick_X5_step
set_option maxRecDepth 20000 in
theorem ggX5_tick_X5_workParts : GoodIn wsX5_tick wsX5_workParts := goodIn_r _ [55, 23, 25, 24, 4, 26, 27, 28, 51, 2, 56, 57, 11, 58, 63, 64, 65, 66, 67, 68, 69, 70, 71, 72, 73, 74, 75, 76, 77, 78, 79, 80, 81, 82, 83, 84, 85, 86] (by decide +kernel) (by decide +kernel)
set_option maxRecDepth 20000 in
theorem gX5_tick_X5_workParts : GoodIn wsX5_tick (wsV RX5 129 RX5 yX5_workParts wsX5_workParts) := goodIn_app (goodIn_of _ (by decide +kernel)) ggX5_tick_X5_workParts
set_option maxRecDepth 20000 in
theorem ggX5_tick_X5_many : GoodIn wsX5_tick wsX5_many := goodIn_r _ [62, 8, 63, 64, 65, 66, 67, 68, 69, 70, 71, 72, 73, 74, 75, 76, 77, 78, 79, 80, 81, 82, 83, 84, 85, 86] (by decide +kernel) (by decide +kernel)
set_option maxRecDepth 20000 in
theorem gX5_tick_X5_many : GoodIn wsX5_tick (wsV RX5 132 RX5 yX5_many wsX5_many) := goodIn_app (goodIn_of _ (by decide +kernel)) ggX5_tick_X5_many
theorem dX5_tick_0 : decode cX5_tick 0 = .ok (.iload_n 1, 1) := by decide +kernel
theorem dX5_tick_1 : decode cX5_tick 1 = .ok (.iconst 1, 1) := by decide +kernel
theorem dX5_tick_2 : decode cX5_tick 2 = .ok (.bipush 64, 2) := by decide +kernel
theorem dX5_tick_4 : decode cX5_tick 4 = .ok (.invokestatic 78, 3) := by decide +kernel
theorem dX5_tick_7 : decode cX5_tick 7 = .ok (.ifCond .ne 6, 3) := by decide +kernel
theorem dX5_tick_10 : decode cX5_tick 10 = .ok (.bipush (-2), 2) := by decide +kernel
theorem dX5_tick_12 : decode cX5_tick 12 = .ok (.ireturn, 1) := by decide +kernel
theorem dX5_tick_13 : decode cX5_tick 13 = .ok (.aload_n 0, 1) := by decide +kernel
theorem dX5_tick_14 : decode cX5_tick 14 = .ok (.invokevirtual 114, 3) := by decide +kernel
theorem dX5_tick_17 : decode cX5_tick 17 = .ok (.aload_n 0, 1) := by decide +kernel
theorem dX5_tick_18 : decode cX5_tick 18 = .ok (.iconst 0, 1) := by decide +kernel
theorem dX5_tick_19 : decode cX5_tick 19 = .ok (.invokevirtual 117, 3) := by decide +kernel
theorem dX5_tick_22 : decode cX5_tick 22 = .ok (.aload_n 0, 1) := by decide +kernel
theorem dX5_tick_23 : decode cX5_tick 23 = .ok (.invokevirtual 121, 3) := by decide +kernel
theorem dX5_tick_26 : decode cX5_tick 26 = .ok (.istore_n 2, 1) := by decide +kernel
theorem dX5_tick_27 : decode cX5_tick 27 = .ok (.iconst 0, 1) := by decide +kernel
theorem dX5_tick_28 : decode cX5_tick 28 = .ok (.istore_n 3, 1) := by decide +kernel
theorem dX5_tick_29 : decode cX5_tick 29 = .ok (.iload_n 3, 1) := by decide +kernel
theorem dX5_tick_30 : decode cX5_tick 30 = .ok (.iload_n 1, 1) := by decide +kernel
theorem dX5_tick_31 : decode cX5_tick 31 = .ok (.if_icmp .ge 76, 3) := by decide +kernel
theorem dX5_tick_34 : decode cX5_tick 34 = .ok (.aload_n 0, 1) := by decide +kernel
theorem dX5_tick_35 : decode cX5_tick 35 = .ok (.iload_n 2, 1) := by decide +kernel
theorem dX5_tick_36 : decode cX5_tick 36 = .ok (.iconst 0, 1) := by decide +kernel
theorem dX5_tick_37 : decode cX5_tick 37 = .ok (.invokevirtual 125, 3) := by decide +kernel
theorem dX5_tick_40 : decode cX5_tick 40 = .ok (.aload_n 0, 1) := by decide +kernel
theorem dX5_tick_41 : decode cX5_tick 41 = .ok (.invokevirtual 129, 3) := by decide +kernel
theorem dX5_tick_44 : decode cX5_tick 44 = .ok (.iconst 0, 1) := by decide +kernel
theorem dX5_tick_45 : decode cX5_tick 45 = .ok (.istore 4, 2) := by decide +kernel
theorem dX5_tick_47 : decode cX5_tick 47 = .ok (.iload 4, 2) := by decide +kernel
theorem dX5_tick_49 : decode cX5_tick 49 = .ok (.aload_n 0, 1) := by decide +kernel
theorem dX5_tick_50 : decode cX5_tick 50 = .ok (.getfield 85, 3) := by decide +kernel
theorem dX5_tick_53 : decode cX5_tick 53 = .ok (.if_icmp .ge 48, 3) := by decide +kernel
theorem dX5_tick_56 : decode cX5_tick 56 = .ok (.aload_n 0, 1) := by decide +kernel
theorem dX5_tick_57 : decode cX5_tick 57 = .ok (.getfield 47, 3) := by decide +kernel
theorem dX5_tick_60 : decode cX5_tick 60 = .ok (.iload 4, 2) := by decide +kernel
theorem dX5_tick_62 : decode cX5_tick 62 = .ok (.iload_n 2, 1) := by decide +kernel
theorem dX5_tick_63 : decode cX5_tick 63 = .ok (.iload 4, 2) := by decide +kernel
theorem dX5_tick_65 : decode cX5_tick 65 = .ok (.ishr, 1) := by decide +kernel
theorem dX5_tick_66 : decode cX5_tick 66 = .ok (.iconst 1, 1) := by decide +kernel
theorem dX5_tick_67 : decode cX5_tick 67 = .ok (.iand, 1) := by decide +kernel
theorem dX5_tick_68 : decode cX5_tick 68 = .ok (.iconst 1, 1) := by decide +kernel
theorem dX5_tick_69 : decode cX5_tick 69 = .ok (.if_icmp .ne 13, 3) := by decide +kernel
theorem dX5_tick_72 : decode cX5_tick 72 = .ok (.aload_n 0, 1) := by decide +kernel
theorem dX5_tick_73 : decode cX5_tick 73 = .ok (.getfield 34, 3) := by decide +kernel
theorem dX5_tick_76 : decode cX5_tick 76 = .ok (.iload 4, 2) := by decide +kernel
theorem dX5_tick_78 : decode cX5_tick 78 = .ok (.iaload, 1) := by decide +kernel
theorem dX5_tick_79 : decode cX5_tick 79 = .ok (.goto 15, 3) := by decide +kernel
theorem dX5_tick_82 : decode cX5_tick 82 = .ok (.aload_n 0, 1) := by decide +kernel
theorem dX5_tick_83 : decode cX5_tick 83 = .ok (.getfield 50, 3) := by decide +kernel
theorem dX5_tick_86 : decode cX5_tick 86 = .ok (.aload_n 0, 1) := by decide +kernel
theorem dX5_tick_87 : decode cX5_tick 87 = .ok (.getfield 37, 3) := by decide +kernel
theorem dX5_tick_90 : decode cX5_tick 90 = .ok (.iload 4, 2) := by decide +kernel
theorem dX5_tick_92 : decode cX5_tick 92 = .ok (.iaload, 1) := by decide +kernel
theorem dX5_tick_93 : decode cX5_tick 93 = .ok (.iaload, 1) := by decide +kernel
theorem dX5_tick_94 : decode cX5_tick 94 = .ok (.iastore, 1) := by decide +kernel
theorem dX5_tick_95 : decode cX5_tick 95 = .ok (.iinc 4 1, 3) := by decide +kernel
theorem dX5_tick_98 : decode cX5_tick 98 = .ok (.goto (-51), 3) := by decide +kernel
theorem dX5_tick_101 : decode cX5_tick 101 = .ok (.iinc 3 1, 3) := by decide +kernel
theorem dX5_tick_104 : decode cX5_tick 104 = .ok (.goto (-75), 3) := by decide +kernel
theorem dX5_tick_107 : decode cX5_tick 107 = .ok (.aload_n 0, 1) := by decide +kernel
theorem dX5_tick_108 : decode cX5_tick 108 = .ok (.dup, 1) := by decide +kernel
theorem dX5_tick_109 : decode cX5_tick 109 = .ok (.getfield 82, 3) := by decide +kernel
theorem dX5_tick_112 : decode cX5_tick 112 = .ok (.iload_n 1, 1) := by decide +kernel
theorem dX5_tick_113 : decode cX5_tick 113 = .ok (.iadd, 1) := by decide +kernel
theorem dX5_tick_114 : decode cX5_tick 114 = .ok (.putfield 82, 3) := by decide +kernel
theorem dX5_tick_117 : decode cX5_tick 117 = .ok (.iconst 0, 1) := by decide +kernel
theorem dX5_tick_118 : decode cX5_tick 118 = .ok (.istore_n 3, 1) := by decide +kernel
theorem dX5_tick_119 : decode cX5_tick 119 = .ok (.iload_n 3, 1) := by decide +kernel
theorem dX5_tick_120 : decode cX5_tick 120 = .ok (.bipush 64, 2) := by decide +kernel
theorem dX5_tick_122 : decode cX5_tick 122 = .ok (.if_icmp .ge 21, 3) := by decide +kernel
theorem dX5_tick_125 : decode cX5_tick 125 = .ok (.aload_n 0, 1) := by decide +kernel
theorem dX5_tick_126 : decode cX5_tick 126 = .ok (.getfield 44, 3) := by decide +kernel
theorem dX5_tick_129 : decode cX5_tick 129 = .ok (.iload_n 3, 1) := by decide +kernel
theorem dX5_tick_130 : decode cX5_tick 130 = .ok (.aload_n 0, 1) := by decide +kernel
theorem dX5_tick_131 : decode cX5_tick 131 = .ok (.getfield 56, 3) := by decide +kernel
theorem dX5_tick_134 : decode cX5_tick 134 = .ok (.iload_n 3, 1) := by decide +kernel
theorem dX5_tick_135 : decode cX5_tick 135 = .ok (.baload, 1) := by decide +kernel
theorem dX5_tick_136 : decode cX5_tick 136 = .ok (.bastore, 1) := by decide +kernel
theorem dX5_tick_137 : decode cX5_tick 137 = .ok (.iinc 3 1, 3) := by decide +kernel
theorem dX5_tick_140 : decode cX5_tick 140 = .ok (.goto (-21), 3) := by decide +kernel
theorem dX5_tick_143 : decode cX5_tick 143 = .ok (.aload_n 0, 1) := by decide +kernel
theorem dX5_tick_144 : decode cX5_tick 144 = .ok (.invokevirtual 132, 3) := by decide +kernel
theorem dX5_tick_147 : decode cX5_tick 147 = .ok (.ireturn, 1) := by decide +kernel
set_option maxRecDepth 20000 in
theorem ggX5_fresh_X5_begin : GoodIn wsX5_fresh wsX5_begin := goodIn_r _ [6, 1, 7, 8, 9, 10, 11, 12, 13, 14, 15, 16, 17, 18, 19, 20, 21, 22, 23, 24, 25, 26, 27, 28, 29, 30, 31, 32, 33] (by decide +kernel) (by decide +kernel)
set_option maxRecDepth 20000 in
theorem gX5_fresh_X5_begin : GoodIn wsX5_fresh (wsV RX5 71 RX5 yX5_begin wsX5_begin) := goodIn_app (goodIn_of _ (by decide +kernel)) ggX5_fresh_X5_begin
theorem dX5_fresh_0 : decode cX5_fresh 0 = .ok (.aload_n 0, 1) := by decide +kernel
theorem dX5_fresh_1 : decode cX5_fresh 1 = .ok (.getfield 82, 3) := by decide +kernel
theorem dX5_fresh_4 : decode cX5_fresh 4 = .ok (.istore_n 1, 1) := by decide +kernel
theorem dX5_fresh_5 : decode cX5_fresh 5 = .ok (.aload_n 0, 1) := by decide +kernel
theorem dX5_fresh_6 : decode cX5_fresh 6 = .ok (.invokevirtual 71, 3) := by decide +kernel
theorem dX5_fresh_9 : decode cX5_fresh 9 = .ok (.iload_n 1, 1) := by decide +kernel
theorem dX5_fresh_10 : decode cX5_fresh 10 = .ok (.ireturn, 1) := by decide +kernel
set_option maxRecDepth 20000 in
theorem ggX5_possible_X5_load : GoodIn wsX5_possible wsX5_load := goodIn_r _ [5, 6, 7, 8, 13, 14, 15, 16, 17, 18, 19, 20, 21, 22, 23, 24, 25, 26, 27, 28, 29, 30, 31, 32, 33, 34, 35, 36] (by decide +kernel) (by decide +kernel)
set_option maxRecDepth 20000 in
theorem gX5_possible_X5_load : GoodIn wsX5_possible (wsV RX5 117 RX5 yX5_load wsX5_load) := goodIn_app (goodIn_of _ (by decide +kernel)) ggX5_possible_X5_load
set_option maxRecDepth 20000 in
theorem ggX5_possible_X5_many : GoodIn wsX5_possible wsX5_many := goodIn_r _ [12, 6, 13, 14, 15, 16, 17, 18, 19, 20, 21, 22, 23, 24, 25, 26, 27, 28, 29, 30, 31, 32, 33, 34, 35, 36] (by decide +kernel) (by decide +kernel)
set_option maxRecDepth 20000 in
theorem gX5_possible_X5_many : GoodIn wsX5_possible (wsV RX5 132 RX5 yX5_many wsX5_many) := goodIn_app (goodIn_of _ (by decide +kernel)) ggX5_possible_X5_many
theorem dX5_possible_0 : decode cX5_possible 0 = .ok (.aload_n 0, 1) := by decide +kernel
theorem dX5_possible_1 : decode cX5_possible 1 = .ok (.iconst 0, 1) := by decide +kernel
theorem dX5_possible_2 : decode cX5_possible 2 = .ok (.invokevirtual 117, 3) := by decide +kernel
theorem dX5_possible_5 : decode cX5_possible 5 = .ok (.aload_n 0, 1) := by decide +kernel
theorem dX5_possible_6 : decode cX5_possible 6 = .ok (.invokevirtual 132, 3) := by decide +kernel
theorem dX5_possible_9 : decode cX5_possible 9 = .ok (.ireturn, 1) := by decide +kernel
theorem dX5_row_0 : decode cX5_row 0 = .ok (.iload_n 1, 1) := by decide +kernel
theorem dX5_row_1 : decode cX5_row 1 = .ok (.istore_n 2, 1) := by decide +kernel
theorem dX5_row_2 : decode cX5_row 2 = .ok (.iconst 0, 1) := by decide +kernel
theorem dX5_row_3 : decode cX5_row 3 = .ok (.istore_n 3, 1) := by decide +kernel
theorem dX5_row_4 : decode cX5_row 4 = .ok (.iload_n 3, 1) := by decide +kernel
theorem dX5_row_5 : decode cX5_row 5 = .ok (.bipush 64, 2) := by decide +kernel
theorem dX5_row_7 : decode cX5_row 7 = .ok (.if_icmp .ge 31, 3) := by decide +kernel
theorem dX5_row_10 : decode cX5_row 10 = .ok (.iload_n 1, 1) := by decide +kernel
theorem dX5_row_11 : decode cX5_row 11 = .ok (.ifCond .lt 27, 3) := by decide +kernel
theorem dX5_row_14 : decode cX5_row 14 = .ok (.aload_n 0, 1) := by decide +kernel
theorem dX5_row_15 : decode cX5_row 15 = .ok (.getfield 44, 3) := by decide +kernel
theorem dX5_row_18 : decode cX5_row 18 = .ok (.iload_n 3, 1) := by decide +kernel
theorem dX5_row_19 : decode cX5_row 19 = .ok (.baload, 1) := by decide +kernel
theorem dX5_row_20 : decode cX5_row 20 = .ok (.ifCond .eq 12, 3) := by decide +kernel
theorem dX5_row_23 : decode cX5_row 23 = .ok (.iload_n 2, 1) := by decide +kernel
theorem dX5_row_24 : decode cX5_row 24 = .ok (.ifCond .ne 5, 3) := by decide +kernel
theorem dX5_row_27 : decode cX5_row 27 = .ok (.iload_n 3, 1) := by decide +kernel
theorem dX5_row_28 : decode cX5_row 28 = .ok (.ireturn, 1) := by decide +kernel
theorem dX5_row_29 : decode cX5_row 29 = .ok (.iinc 2 (-1), 3) := by decide +kernel
theorem dX5_row_32 : decode cX5_row 32 = .ok (.iinc 3 1, 3) := by decide +kernel
theorem dX5_row_35 : decode cX5_row 35 = .ok (.goto (-31), 3) := by decide +kernel
theorem dX5_row_38 : decode cX5_row 38 = .ok (.bipush (-9), 2) := by decide +kernel
theorem dX5_row_40 : decode cX5_row 40 = .ok (.ireturn, 1) := by decide +kernel
set_option maxRecDepth 20000 in
theorem ggX5_sureOf_X5_isPut : GoodIn wsX5_sureOf wsX5_isPut := goodIn_r _ [9, 2, 10, 24, 25, 26, 27, 28, 29, 30, 31, 32, 33, 34, 35, 36, 37, 38, 39, 40, 41, 42, 43, 44, 45, 46, 47] (by decide +kernel) (by decide +kernel)
set_option maxRecDepth 20000 in
theorem gX5_sureOf_X5_isPut : GoodIn wsX5_sureOf (wsV RX5 107 RX5 yX5_isPut wsX5_isPut) := goodIn_app (goodIn_of _ (by decide +kernel)) ggX5_sureOf_X5_isPut
set_option maxRecDepth 20000 in
theorem ggX5_sureOf_X5_work : GoodIn wsX5_sureOf wsX5_work := goodIn_r _ [14, 15, 16, 4, 17, 18, 19, 20, 21, 22, 8, 23, 24, 25, 26, 27, 28, 29, 30, 31, 32, 33, 34, 35, 36, 37, 38, 39, 40, 41, 42, 43, 44, 45, 46, 47] (by decide +kernel) (by decide +kernel)
set_option maxRecDepth 20000 in
theorem gX5_sureOf_X5_work : GoodIn wsX5_sureOf (wsV RX5 103 RX5 yX5_work wsX5_work) := goodIn_app (goodIn_of _ (by decide +kernel)) ggX5_sureOf_X5_work
theorem dX5_sureOf_0 : decode cX5_sureOf 0 = .ok (.iconst 0, 1) := by decide +kernel
theorem dX5_sureOf_1 : decode cX5_sureOf 1 = .ok (.istore_n 2, 1) := by decide +kernel
theorem dX5_sureOf_2 : decode cX5_sureOf 2 = .ok (.iconst 0, 1) := by decide +kernel
theorem dX5_sureOf_3 : decode cX5_sureOf 3 = .ok (.istore_n 3, 1) := by decide +kernel
theorem dX5_sureOf_4 : decode cX5_sureOf 4 = .ok (.iconst 0, 1) := by decide +kernel
theorem dX5_sureOf_5 : decode cX5_sureOf 5 = .ok (.istore 4, 2) := by decide +kernel
theorem dX5_sureOf_7 : decode cX5_sureOf 7 = .ok (.iload 4, 2) := by decide +kernel
theorem dX5_sureOf_9 : decode cX5_sureOf 9 = .ok (.iconst 1, 1) := by decide +kernel
theorem dX5_sureOf_10 : decode cX5_sureOf 10 = .ok (.aload_n 0, 1) := by decide +kernel
theorem dX5_sureOf_11 : decode cX5_sureOf 11 = .ok (.getfield 85, 3) := by decide +kernel
theorem dX5_sureOf_14 : decode cX5_sureOf 14 = .ok (.ishl, 1) := by decide +kernel
theorem dX5_sureOf_15 : decode cX5_sureOf 15 = .ok (.if_icmp .ge 96, 3) := by decide +kernel
theorem dX5_sureOf_18 : decode cX5_sureOf 18 = .ok (.iconst 0, 1) := by decide +kernel
theorem dX5_sureOf_19 : decode cX5_sureOf 19 = .ok (.istore 5, 2) := by decide +kernel
theorem dX5_sureOf_21 : decode cX5_sureOf 21 = .ok (.iload 5, 2) := by decide +kernel
theorem dX5_sureOf_23 : decode cX5_sureOf 23 = .ok (.iconst 1, 1) := by decide +kernel
theorem dX5_sureOf_24 : decode cX5_sureOf 24 = .ok (.aload_n 0, 1) := by decide +kernel
theorem dX5_sureOf_25 : decode cX5_sureOf 25 = .ok (.getfield 88, 3) := by decide +kernel
theorem dX5_sureOf_28 : decode cX5_sureOf 28 = .ok (.ishl, 1) := by decide +kernel
theorem dX5_sureOf_29 : decode cX5_sureOf 29 = .ok (.if_icmp .ge 76, 3) := by decide +kernel
theorem dX5_sureOf_32 : decode cX5_sureOf 32 = .ok (.aload_n 0, 1) := by decide +kernel
theorem dX5_sureOf_33 : decode cX5_sureOf 33 = .ok (.getfield 44, 3) := by decide +kernel
theorem dX5_sureOf_36 : decode cX5_sureOf 36 = .ok (.iload 4, 2) := by decide +kernel
theorem dX5_sureOf_38 : decode cX5_sureOf 38 = .ok (.baload, 1) := by decide +kernel
theorem dX5_sureOf_39 : decode cX5_sureOf 39 = .ok (.ifCond .eq 60, 3) := by decide +kernel
theorem dX5_sureOf_42 : decode cX5_sureOf 42 = .ok (.aload_n 0, 1) := by decide +kernel
theorem dX5_sureOf_43 : decode cX5_sureOf 43 = .ok (.iload 5, 2) := by decide +kernel
theorem dX5_sureOf_45 : decode cX5_sureOf 45 = .ok (.iconst 0, 1) := by decide +kernel
theorem dX5_sureOf_46 : decode cX5_sureOf 46 = .ok (.invokevirtual 107, 3) := by decide +kernel
theorem dX5_sureOf_49 : decode cX5_sureOf 49 = .ok (.ifCond .eq 50, 3) := by decide +kernel
theorem dX5_sureOf_52 : decode cX5_sureOf 52 = .ok (.aload_n 0, 1) := by decide +kernel
theorem dX5_sureOf_53 : decode cX5_sureOf 53 = .ok (.iload 4, 2) := by decide +kernel
theorem dX5_sureOf_55 : decode cX5_sureOf 55 = .ok (.iload 5, 2) := by decide +kernel
theorem dX5_sureOf_57 : decode cX5_sureOf 57 = .ok (.invokevirtual 103, 3) := by decide +kernel
theorem dX5_sureOf_60 : decode cX5_sureOf 60 = .ok (.iload_n 2, 1) := by decide +kernel
theorem dX5_sureOf_61 : decode cX5_sureOf 61 = .ok (.ifCond .ne 12, 3) := by decide +kernel
theorem dX5_sureOf_64 : decode cX5_sureOf 64 = .ok (.aload_n 0, 1) := by decide +kernel
theorem dX5_sureOf_65 : decode cX5_sureOf 65 = .ok (.getfield 50, 3) := by decide +kernel
theorem dX5_sureOf_68 : decode cX5_sureOf 68 = .ok (.iload_n 1, 1) := by decide +kernel
theorem dX5_sureOf_69 : decode cX5_sureOf 69 = .ok (.iaload, 1) := by decide +kernel
theorem dX5_sureOf_70 : decode cX5_sureOf 70 = .ok (.ifCond .ne 7, 3) := by decide +kernel
theorem dX5_sureOf_73 : decode cX5_sureOf 73 = .ok (.iconst 1, 1) := by decide +kernel
theorem dX5_sureOf_74 : decode cX5_sureOf 74 = .ok (.goto 4, 3) := by decide +kernel
theorem dX5_sureOf_77 : decode cX5_sureOf 77 = .ok (.iconst 0, 1) := by decide +kernel
theorem dX5_sureOf_78 : decode cX5_sureOf 78 = .ok (.istore_n 2, 1) := by decide +kernel
theorem dX5_sureOf_79 : decode cX5_sureOf 79 = .ok (.iload_n 3, 1) := by decide +kernel
theorem dX5_sureOf_80 : decode cX5_sureOf 80 = .ok (.ifCond .ne 13, 3) := by decide +kernel
theorem dX5_sureOf_83 : decode cX5_sureOf 83 = .ok (.aload_n 0, 1) := by decide +kernel
theorem dX5_sureOf_84 : decode cX5_sureOf 84 = .ok (.getfield 50, 3) := by decide +kernel
theorem dX5_sureOf_87 : decode cX5_sureOf 87 = .ok (.iload_n 1, 1) := by decide +kernel
theorem dX5_sureOf_88 : decode cX5_sureOf 88 = .ok (.iaload, 1) := by decide +kernel
theorem dX5_sureOf_89 : decode cX5_sureOf 89 = .ok (.iconst 1, 1) := by decide +kernel
theorem dX5_sureOf_90 : decode cX5_sureOf 90 = .ok (.if_icmp .ne 7, 3) := by decide +kernel
theorem dX5_sureOf_93 : decode cX5_sureOf 93 = .ok (.iconst 1, 1) := by decide +kernel
theorem dX5_sureOf_94 : decode cX5_sureOf 94 = .ok (.goto 4, 3) := by decide +kernel
theorem dX5_sureOf_97 : decode cX5_sureOf 97 = .ok (.iconst 0, 1) := by decide +kernel
theorem dX5_sureOf_98 : decode cX5_sureOf 98 = .ok (.istore_n 3, 1) := by decide +kernel
theorem dX5_sureOf_99 : decode cX5_sureOf 99 = .ok (.iinc 5 1, 3) := by decide +kernel
theorem dX5_sureOf_102 : decode cX5_sureOf 102 = .ok (.goto (-81), 3) := by decide +kernel
theorem dX5_sureOf_105 : decode cX5_sureOf 105 = .ok (.iinc 4 1, 3) := by decide +kernel
theorem dX5_sureOf_108 : decode cX5_sureOf 108 = .ok (.goto (-101), 3) := by decide +kernel
theorem dX5_sureOf_111 : decode cX5_sureOf 111 = .ok (.iload_n 2, 1) := by decide +kernel
theorem dX5_sureOf_112 : decode cX5_sureOf 112 = .ok (.ifCond .eq 11, 3) := by decide +kernel
theorem dX5_sureOf_115 : decode cX5_sureOf 115 = .ok (.iload_n 3, 1) := by decide +kernel
theorem dX5_sureOf_116 : decode cX5_sureOf 116 = .ok (.ifCond .eq 7, 3) := by decide +kernel
theorem dX5_sureOf_119 : decode cX5_sureOf 119 = .ok (.iconst 2, 1) := by decide +kernel
theorem dX5_sureOf_120 : decode cX5_sureOf 120 = .ok (.goto 12, 3) := by decide +kernel
theorem dX5_sureOf_123 : decode cX5_sureOf 123 = .ok (.iload_n 3, 1) := by decide +kernel
theorem dX5_sureOf_124 : decode cX5_sureOf 124 = .ok (.ifCond .eq 7, 3) := by decide +kernel
theorem dX5_sureOf_127 : decode cX5_sureOf 127 = .ok (.iconst 1, 1) := by decide +kernel
theorem dX5_sureOf_128 : decode cX5_sureOf 128 = .ok (.goto 4, 3) := by decide +kernel
theorem dX5_sureOf_131 : decode cX5_sureOf 131 = .ok (.iconst 0, 1) := by decide +kernel
theorem dX5_sureOf_132 : decode cX5_sureOf 132 = .ok (.ireturn, 1) := by decide +kernel
set_option maxRecDepth 20000 in
theorem ggX5_sure_X5_isNode : GoodIn wsX5_sure wsX5_isNode := goodIn_r _ [5, 6, 7, 8, 4, 9, 35, 36, 37, 38, 39, 40, 41, 42, 43, 44, 45, 46, 47, 48, 49, 50, 51, 52, 53, 54, 55, 56, 57, 58] (by decide +kernel) (by decide +kernel)
set_option maxRecDepth 20000 in
theorem gX5_sure_X5_isNode : GoodIn wsX5_sure (wsV RX5 95 RX5 yX5_isNode wsX5_isNode) := goodIn_app (goodIn_of _ (by decide +kernel)) ggX5_sure_X5_isNode
set_option maxRecDepth 20000 in
theorem ggX5_sure_X5_sureOf : GoodIn wsX5_sure wsX5_sureOf := goodIn_r _ [13, 14, 15, 16, 17, 18, 19, 20, 4, 21, 22, 23, 24, 25, 26, 6, 27, 28, 29, 30, 31, 32, 33, 34, 35, 36, 37, 38, 39, 40, 41, 42, 43, 44, 45, 46, 47, 48, 49, 50, 51, 52, 53, 54, 55, 56, 57, 58] (by decide +kernel) (by decide +kernel)
set_option maxRecDepth 20000 in
theorem gX5_sure_X5_sureOf : GoodIn wsX5_sure (wsV RX5 135 RX5 yX5_sureOf wsX5_sureOf) := goodIn_app (goodIn_of _ (by decide +kernel)) ggX5_sure_X5_sureOf
theorem dX5_sure_0 : decode cX5_sure 0 = .ok (.aload_n 0, 1) := by decide +kernel
theorem dX5_sure_1 : decode cX5_sure 1 = .ok (.iload_n 1, 1) := by decide +kernel
theorem dX5_sure_2 : decode cX5_sure 2 = .ok (.invokevirtual 95, 3) := by decide +kernel
theorem dX5_sure_5 : decode cX5_sure 5 = .ok (.ifCond .eq 11, 3) := by decide +kernel
theorem dX5_sure_8 : decode cX5_sure 8 = .ok (.aload_n 0, 1) := by decide +kernel
theorem dX5_sure_9 : decode cX5_sure 9 = .ok (.iload_n 1, 1) := by decide +kernel
theorem dX5_sure_10 : decode cX5_sure 10 = .ok (.invokevirtual 135, 3) := by decide +kernel
theorem dX5_sure_13 : decode cX5_sure 13 = .ok (.goto 4, 3) := by decide +kernel
theorem dX5_sure_16 : decode cX5_sure 16 = .ok (.iconst (-1), 1) := by decide +kernel
theorem dX5_sure_17 : decode cX5_sure 17 = .ok (.ireturn, 1) := by decide +kernel
set_option maxRecDepth 20000 in
theorem ggX5_told_X5_isNode : GoodIn wsX5_told wsX5_isNode := goodIn_r _ [6, 7, 8, 9, 5, 10, 25, 26, 27, 28, 29, 30, 31, 32, 33, 34, 35, 36, 37, 38, 39, 40, 41, 42, 43, 44, 45, 46, 47, 48] (by decide +kernel) (by decide +kernel)
set_option maxRecDepth 20000 in
theorem gX5_told_X5_isNode : GoodIn wsX5_told (wsV RX5 95 RX5 yX5_isNode wsX5_isNode) := goodIn_app (goodIn_of _ (by decide +kernel)) ggX5_told_X5_isNode
set_option maxRecDepth 20000 in
theorem ggX5_told_X5_workParts : GoodIn wsX5_told wsX5_workParts := goodIn_r _ [14, 7, 15, 16, 1, 17, 18, 19, 20, 21, 22, 23, 5, 24, 25, 26, 27, 28, 29, 30, 31, 32, 33, 34, 35, 36, 37, 38, 39, 40, 41, 42, 43, 44, 45, 46, 47, 48] (by decide +kernel) (by decide +kernel)
set_option maxRecDepth 20000 in
theorem gX5_told_X5_workParts : GoodIn wsX5_told (wsV RX5 129 RX5 yX5_workParts wsX5_workParts) := goodIn_app (goodIn_of _ (by decide +kernel)) ggX5_told_X5_workParts
theorem dX5_told_0 : decode cX5_told 0 = .ok (.aload_n 0, 1) := by decide +kernel
theorem dX5_told_1 : decode cX5_told 1 = .ok (.iload_n 1, 1) := by decide +kernel
theorem dX5_told_2 : decode cX5_told 2 = .ok (.invokevirtual 95, 3) := by decide +kernel
theorem dX5_told_5 : decode cX5_told 5 = .ok (.ifCond .ne 5, 3) := by decide +kernel
theorem dX5_told_8 : decode cX5_told 8 = .ok (.iconst (-1), 1) := by decide +kernel
theorem dX5_told_9 : decode cX5_told 9 = .ok (.ireturn, 1) := by decide +kernel
theorem dX5_told_10 : decode cX5_told 10 = .ok (.aload_n 0, 1) := by decide +kernel
theorem dX5_told_11 : decode cX5_told 11 = .ok (.invokevirtual 129, 3) := by decide +kernel
theorem dX5_told_14 : decode cX5_told 14 = .ok (.aload_n 0, 1) := by decide +kernel
theorem dX5_told_15 : decode cX5_told 15 = .ok (.getfield 50, 3) := by decide +kernel
theorem dX5_told_18 : decode cX5_told 18 = .ok (.iload_n 1, 1) := by decide +kernel
theorem dX5_told_19 : decode cX5_told 19 = .ok (.iaload, 1) := by decide +kernel
theorem dX5_told_20 : decode cX5_told 20 = .ok (.ireturn, 1) := by decide +kernel
set_option maxRecDepth 20000 in
theorem ggX5_known_X5_sureOf : GoodIn wsX5_known wsX5_sureOf := goodIn_r _ [8, 1, 9, 10, 11, 12, 13, 14, 7, 15, 16, 17, 18, 19, 20, 21, 22, 23, 24, 25, 26, 27, 28, 29, 30, 31, 32, 33, 34, 35, 36, 37, 38, 39, 40, 41, 42, 43, 44, 45, 46, 47, 48, 49, 50, 51, 52, 53] (by decide +kernel) (by decide +kernel)
set_option maxRecDepth 20000 in
theorem gX5_known_X5_sureOf : GoodIn wsX5_known (wsV RX5 135 RX5 yX5_sureOf wsX5_sureOf) := goodIn_app (goodIn_of _ (by decide +kernel)) ggX5_known_X5_sureOf
theorem dX5_known_0 : decode cX5_known 0 = .ok (.iconst 0, 1) := by decide +kernel
theorem dX5_known_1 : decode cX5_known 1 = .ok (.istore_n 2, 1) := by decide +kernel
theorem dX5_known_2 : decode cX5_known 2 = .ok (.iconst 0, 1) := by decide +kernel
theorem dX5_known_3 : decode cX5_known 3 = .ok (.istore_n 3, 1) := by decide +kernel
theorem dX5_known_4 : decode cX5_known 4 = .ok (.iload_n 3, 1) := by decide +kernel
theorem dX5_known_5 : decode cX5_known 5 = .ok (.aload_n 0, 1) := by decide +kernel
theorem dX5_known_6 : decode cX5_known 6 = .ok (.getfield 85, 3) := by decide +kernel
theorem dX5_known_9 : decode cX5_known 9 = .ok (.if_icmp .ge 44, 3) := by decide +kernel
theorem dX5_known_12 : decode cX5_known 12 = .ok (.iload_n 2, 1) := by decide +kernel
theorem dX5_known_13 : decode cX5_known 13 = .ok (.iload_n 1, 1) := by decide +kernel
theorem dX5_known_14 : decode cX5_known 14 = .ok (.ifCond .eq 12, 3) := by decide +kernel
theorem dX5_known_17 : decode cX5_known 17 = .ok (.aload_n 0, 1) := by decide +kernel
theorem dX5_known_18 : decode cX5_known 18 = .ok (.getfield 47, 3) := by decide +kernel
theorem dX5_known_21 : decode cX5_known 21 = .ok (.iload_n 3, 1) := by decide +kernel
theorem dX5_known_22 : decode cX5_known 22 = .ok (.iaload, 1) := by decide +kernel
theorem dX5_known_23 : decode cX5_known 23 = .ok (.goto 13, 3) := by decide +kernel
theorem dX5_known_26 : decode cX5_known 26 = .ok (.aload_n 0, 1) := by decide +kernel
theorem dX5_known_27 : decode cX5_known 27 = .ok (.aload_n 0, 1) := by decide +kernel
theorem dX5_known_28 : decode cX5_known 28 = .ok (.getfield 28, 3) := by decide +kernel
theorem dX5_known_31 : decode cX5_known 31 = .ok (.iload_n 3, 1) := by decide +kernel
theorem dX5_known_32 : decode cX5_known 32 = .ok (.iaload, 1) := by decide +kernel
theorem dX5_known_33 : decode cX5_known 33 = .ok (.invokevirtual 135, 3) := by decide +kernel
theorem dX5_known_36 : decode cX5_known 36 = .ok (.iconst 2, 1) := by decide +kernel
theorem dX5_known_37 : decode cX5_known 37 = .ok (.if_icmp .ge 7, 3) := by decide +kernel
theorem dX5_known_40 : decode cX5_known 40 = .ok (.iconst 1, 1) := by decide +kernel
theorem dX5_known_41 : decode cX5_known 41 = .ok (.goto 4, 3) := by decide +kernel
theorem dX5_known_44 : decode cX5_known 44 = .ok (.iconst 0, 1) := by decide +kernel
theorem dX5_known_45 : decode cX5_known 45 = .ok (.iadd, 1) := by decide +kernel
theorem dX5_known_46 : decode cX5_known 46 = .ok (.istore_n 2, 1) := by decide +kernel
theorem dX5_known_47 : decode cX5_known 47 = .ok (.iinc 3 1, 3) := by decide +kernel
theorem dX5_known_50 : decode cX5_known 50 = .ok (.goto (-46), 3) := by decide +kernel
theorem dX5_known_53 : decode cX5_known 53 = .ok (.iload_n 2, 1) := by decide +kernel
theorem dX5_known_54 : decode cX5_known 54 = .ok (.ireturn, 1) := by decide +kernel
set_option maxRecDepth 20000 in
theorem ggX5_settle_X5_many : GoodIn wsX5_settle wsX5_many := goodIn_r _ [5, 6, 21, 22, 23, 24, 25, 26, 27, 28, 29, 30, 31, 32, 33, 34, 35, 36, 37, 38, 39, 40, 41, 42, 43, 44] (by decide +kernel) (by decide +kernel)
set_option maxRecDepth 20000 in
theorem gX5_settle_X5_many : GoodIn wsX5_settle (wsV RX5 132 RX5 yX5_many wsX5_many) := goodIn_app (goodIn_of _ (by decide +kernel)) ggX5_settle_X5_many
set_option maxRecDepth 20000 in
theorem ggX5_settle_X5_step : GoodIn wsX5_settle wsX5_step := goodIn_r _ [10, 11, 12, 13, 14, 6, 15, 16, 17, 18, 4, 19, 20, 21, 22, 23, 24, 25, 26, 27, 28, 29, 30, 31, 32, 33, 34, 35, 36, 37, 38, 39, 40, 41, 42, 43, 44] (by decide +kernel) (by decide +kernel)
set_option maxRecDepth 20000 in
theorem gX5_settle_X5_step : GoodIn wsX5_settle (wsV RX5 125 RX5 yX5_step wsX5_step) := goodIn_app (goodIn_of _ (by decide +kernel)) ggX5_settle_X5_step
theorem dX5_settle_0 : decode cX5_settle 0 = .ok (.iconst 0, 1) := by decide +kernel
theorem dX5_settle_1 : decode cX5_settle 1 = .ok (.istore_n 3, 1) := by decide +kernel
theorem dX5_settle_2 : decode cX5_settle 2 = .ok (.iload_n 3, 1) := by decide +kernel
theorem dX5_settle_3 : decode cX5_settle 3 = .ok (.bipush 64, 2) := by decide +kernel
theorem dX5_settle_5 : decode cX5_settle 5 = .ok (.if_icmp .gt 25, 3) := by decide +kernel
theorem dX5_settle_8 : decode cX5_settle 8 = .ok (.aload_n 0, 1) := by decide +kernel
theorem dX5_settle_9 : decode cX5_settle 9 = .ok (.invokevirtual 132, 3) := by decide +kernel
theorem dX5_settle_12 : decode cX5_settle 12 = .ok (.iconst 1, 1) := by decide +kernel
theorem dX5_settle_13 : decode cX5_settle 13 = .ok (.if_icmp .ne 5, 3) := by decide +kernel
theorem dX5_settle_16 : decode cX5_settle 16 = .ok (.iload_n 3, 1) := by decide +kernel
theorem dX5_settle_17 : decode cX5_settle 17 = .ok (.ireturn, 1) := by decide +kernel
theorem dX5_settle_18 : decode cX5_settle 18 = .ok (.aload_n 0, 1) := by decide +kernel
theorem dX5_settle_19 : decode cX5_settle 19 = .ok (.iload_n 1, 1) := by decide +kernel
theorem dX5_settle_20 : decode cX5_settle 20 = .ok (.iload_n 2, 1) := by decide +kernel
theorem dX5_settle_21 : decode cX5_settle 21 = .ok (.invokevirtual 125, 3) := by decide +kernel
theorem dX5_settle_24 : decode cX5_settle 24 = .ok (.iinc 3 1, 3) := by decide +kernel
theorem dX5_settle_27 : decode cX5_settle 27 = .ok (.goto (-25), 3) := by decide +kernel
theorem dX5_settle_30 : decode cX5_settle 30 = .ok (.bipush (-9), 2) := by decide +kernel
theorem dX5_settle_32 : decode cX5_settle 32 = .ok (.ireturn, 1) := by decide +kernel
set_option maxRecDepth 20000 in
theorem ggX5_settles_X5_layLeads : GoodIn wsX5_settles wsX5_layLeads := goodIn_r _ [5, 6, 7, 8, 9, 10, 11, 12, 13, 4, 14, 15, 16, 17, 18, 19, 20, 21, 22, 23, 55, 56, 57, 58, 59, 60, 61, 62, 63, 64, 65, 66, 67, 68, 69, 70, 71, 72, 73, 74, 75, 76, 77, 78] (by decide +kernel) (by decide +kernel)
set_option maxRecDepth 20000 in
theorem gX5_settles_X5_layLeads : GoodIn wsX5_settles (wsV RX5 114 RX5 yX5_layLeads wsX5_layLeads) := goodIn_app (goodIn_of _ (by decide +kernel)) ggX5_settles_X5_layLeads
set_option maxRecDepth 20000 in
theorem ggX5_settles_X5_load : GoodIn wsX5_settles wsX5_load := goodIn_r _ [27, 28, 6, 29, 55, 56, 57, 58, 59, 60, 61, 62, 63, 64, 65, 66, 67, 68, 69, 70, 71, 72, 73, 74, 75, 76, 77, 78] (by decide +kernel) (by decide +kernel)
set_option maxRecDepth 20000 in
theorem gX5_settles_X5_load : GoodIn wsX5_settles (wsV RX5 117 RX5 yX5_load wsX5_load) := goodIn_app (goodIn_of _ (by decide +kernel)) ggX5_settles_X5_load
set_option maxRecDepth 20000 in
theorem ggX5_settles_X5_resets : GoodIn wsX5_settles wsX5_resets := goodIn_r _ [33, 6, 34, 35, 55, 56, 57, 58, 59, 60, 61, 62, 63, 64, 65, 66, 67, 68, 69, 70, 71, 72, 73, 74, 75, 76, 77, 78] (by decide +kernel) (by decide +kernel)
set_option maxRecDepth 20000 in
theorem gX5_settles_X5_resets : GoodIn wsX5_settles (wsV RX5 121 RX5 yX5_resets wsX5_resets) := goodIn_app (goodIn_of _ (by decide +kernel)) ggX5_settles_X5_resets
set_option maxRecDepth 20000 in
theorem ggX5_settles_X5_settle : GoodIn wsX5_settles wsX5_settle := goodIn_r _ [39, 40, 41, 42, 4, 43, 28, 44, 45, 46, 47, 6, 48, 49, 7, 10, 50, 51, 52, 53, 54, 55, 56, 57, 58, 59, 60, 61, 62, 63, 64, 65, 66, 67, 68, 69, 70, 71, 72, 73, 74, 75, 76, 77, 78] (by decide +kernel) (by decide +kernel)
set_option maxRecDepth 20000 in
theorem gX5_settles_X5_settle : GoodIn wsX5_settles (wsV RX5 139 RX5 yX5_settle wsX5_settle) := goodIn_app (goodIn_of _ (by decide +kernel)) ggX5_settles_X5_settle
theorem dX5_settles_0 : decode cX5_settles 0 = .ok (.aload_n 0, 1) := by decide +kernel
theorem dX5_settles_1 : decode cX5_settles 1 = .ok (.invokevirtual 114, 3) := by decide +kernel
theorem dX5_settles_4 : decode cX5_settles 4 = .ok (.aload_n 0, 1) := by decide +kernel
theorem dX5_settles_5 : decode cX5_settles 5 = .ok (.iconst 0, 1) := by decide +kernel
theorem dX5_settles_6 : decode cX5_settles 6 = .ok (.invokevirtual 117, 3) := by decide +kernel
theorem dX5_settles_9 : decode cX5_settles 9 = .ok (.aload_n 0, 1) := by decide +kernel
theorem dX5_settles_10 : decode cX5_settles 10 = .ok (.aload_n 0, 1) := by decide +kernel
theorem dX5_settles_11 : decode cX5_settles 11 = .ok (.invokevirtual 121, 3) := by decide +kernel
theorem dX5_settles_14 : decode cX5_settles 14 = .ok (.iconst 0, 1) := by decide +kernel
theorem dX5_settles_15 : decode cX5_settles 15 = .ok (.invokevirtual 139, 3) := by decide +kernel
theorem dX5_settles_18 : decode cX5_settles 18 = .ok (.ireturn, 1) := by decide +kernel
set_option maxRecDepth 20000 in
theorem ggX5_next_X5_in : GoodIn wsX5_next wsX5_in := goodIn_r _ [9] (by decide +kernel) (by decide +kernel)
set_option maxRecDepth 20000 in
theorem gX5_next_X5_in : GoodIn wsX5_next (va_wsS RX5 78 yX5_in wsX5_in) := goodIn_app (goodIn_of _ (by decide +kernel)) ggX5_next_X5_in
set_option maxRecDepth 20000 in
theorem ggX5_next_X5_layLeads : GoodIn wsX5_next wsX5_layLeads := goodIn_r _ [13, 1, 2, 14, 15, 4, 16, 17, 18, 8, 19, 20, 21, 22, 23, 24, 25, 26, 27, 28, 35, 36, 37, 38, 39, 40, 41, 42, 43, 44, 45, 46, 47, 48, 49, 50, 51, 52, 53, 54, 55, 56, 57, 58] (by decide +kernel) (by decide +kernel)
set_option maxRecDepth 20000 in
theorem gX5_next_X5_layLeads : GoodIn wsX5_next (wsV RX5 114 RX5 yX5_layLeads wsX5_layLeads) := goodIn_app (goodIn_of _ (by decide +kernel)) ggX5_next_X5_layLeads
set_option maxRecDepth 20000 in
theorem ggX5_next_X5_resets : GoodIn wsX5_next wsX5_resets := goodIn_r _ [32, 1, 33, 34, 35, 36, 37, 38, 39, 40, 41, 42, 43, 44, 45, 46, 47, 48, 49, 50, 51, 52, 53, 54, 55, 56, 57, 58] (by decide +kernel) (by decide +kernel)
set_option maxRecDepth 20000 in
theorem gX5_next_X5_resets : GoodIn wsX5_next (wsV RX5 121 RX5 yX5_resets wsX5_resets) := goodIn_app (goodIn_of _ (by decide +kernel)) ggX5_next_X5_resets
theorem dX5_next_0 : decode cX5_next 0 = .ok (.iload_n 1, 1) := by decide +kernel
theorem dX5_next_1 : decode cX5_next 1 = .ok (.iconst 0, 1) := by decide +kernel
theorem dX5_next_2 : decode cX5_next 2 = .ok (.iconst 1, 1) := by decide +kernel
theorem dX5_next_3 : decode cX5_next 3 = .ok (.aload_n 0, 1) := by decide +kernel
theorem dX5_next_4 : decode cX5_next 4 = .ok (.getfield 85, 3) := by decide +kernel
theorem dX5_next_7 : decode cX5_next 7 = .ok (.ishl, 1) := by decide +kernel
theorem dX5_next_8 : decode cX5_next 8 = .ok (.iconst 1, 1) := by decide +kernel
theorem dX5_next_9 : decode cX5_next 9 = .ok (.isub, 1) := by decide +kernel
theorem dX5_next_10 : decode cX5_next 10 = .ok (.invokestatic 78, 3) := by decide +kernel
theorem dX5_next_13 : decode cX5_next 13 = .ok (.ifCond .ne 6, 3) := by decide +kernel
theorem dX5_next_16 : decode cX5_next 16 = .ok (.bipush (-2), 2) := by decide +kernel
theorem dX5_next_18 : decode cX5_next 18 = .ok (.ireturn, 1) := by decide +kernel
theorem dX5_next_19 : decode cX5_next 19 = .ok (.aload_n 0, 1) := by decide +kernel
theorem dX5_next_20 : decode cX5_next 20 = .ok (.invokevirtual 114, 3) := by decide +kernel
theorem dX5_next_23 : decode cX5_next 23 = .ok (.iconst 0, 1) := by decide +kernel
theorem dX5_next_24 : decode cX5_next 24 = .ok (.istore_n 2, 1) := by decide +kernel
theorem dX5_next_25 : decode cX5_next 25 = .ok (.iconst 0, 1) := by decide +kernel
theorem dX5_next_26 : decode cX5_next 26 = .ok (.istore_n 3, 1) := by decide +kernel
theorem dX5_next_27 : decode cX5_next 27 = .ok (.iload_n 3, 1) := by decide +kernel
theorem dX5_next_28 : decode cX5_next 28 = .ok (.aload_n 0, 1) := by decide +kernel
theorem dX5_next_29 : decode cX5_next 29 = .ok (.getfield 88, 3) := by decide +kernel
theorem dX5_next_32 : decode cX5_next 32 = .ok (.if_icmp .ge 29, 3) := by decide +kernel
theorem dX5_next_35 : decode cX5_next 35 = .ok (.iload_n 2, 1) := by decide +kernel
theorem dX5_next_36 : decode cX5_next 36 = .ok (.aload_n 0, 1) := by decide +kernel
theorem dX5_next_37 : decode cX5_next 37 = .ok (.getfield 25, 3) := by decide +kernel
theorem dX5_next_40 : decode cX5_next 40 = .ok (.iload_n 3, 1) := by decide +kernel
theorem dX5_next_41 : decode cX5_next 41 = .ok (.iaload, 1) := by decide +kernel
theorem dX5_next_42 : decode cX5_next 42 = .ok (.iconst 1, 1) := by decide +kernel
theorem dX5_next_43 : decode cX5_next 43 = .ok (.if_icmp .ne 9, 3) := by decide +kernel
theorem dX5_next_46 : decode cX5_next 46 = .ok (.iconst 1, 1) := by decide +kernel
theorem dX5_next_47 : decode cX5_next 47 = .ok (.iload_n 3, 1) := by decide +kernel
theorem dX5_next_48 : decode cX5_next 48 = .ok (.ishl, 1) := by decide +kernel
theorem dX5_next_49 : decode cX5_next 49 = .ok (.goto 4, 3) := by decide +kernel
theorem dX5_next_52 : decode cX5_next 52 = .ok (.iconst 0, 1) := by decide +kernel
theorem dX5_next_53 : decode cX5_next 53 = .ok (.ior, 1) := by decide +kernel
theorem dX5_next_54 : decode cX5_next 54 = .ok (.istore_n 2, 1) := by decide +kernel
theorem dX5_next_55 : decode cX5_next 55 = .ok (.iinc 3 1, 3) := by decide +kernel
theorem dX5_next_58 : decode cX5_next 58 = .ok (.goto (-31), 3) := by decide +kernel
theorem dX5_next_61 : decode cX5_next 61 = .ok (.aload_n 0, 1) := by decide +kernel
theorem dX5_next_62 : decode cX5_next 62 = .ok (.getfield 53, 3) := by decide +kernel
theorem dX5_next_65 : decode cX5_next 65 = .ok (.bipush 16, 2) := by decide +kernel
theorem dX5_next_67 : decode cX5_next 67 = .ok (.iload_n 1, 1) := by decide +kernel
theorem dX5_next_68 : decode cX5_next 68 = .ok (.imul, 1) := by decide +kernel
theorem dX5_next_69 : decode cX5_next 69 = .ok (.iload_n 2, 1) := by decide +kernel
theorem dX5_next_70 : decode cX5_next 70 = .ok (.iadd, 1) := by decide +kernel
theorem dX5_next_71 : decode cX5_next 71 = .ok (.iaload, 1) := by decide +kernel
theorem dX5_next_72 : decode cX5_next 72 = .ok (.istore_n 3, 1) := by decide +kernel
theorem dX5_next_73 : decode cX5_next 73 = .ok (.aload_n 0, 1) := by decide +kernel
theorem dX5_next_74 : decode cX5_next 74 = .ok (.invokevirtual 121, 3) := by decide +kernel
theorem dX5_next_77 : decode cX5_next 77 = .ok (.istore 4, 2) := by decide +kernel
theorem dX5_next_79 : decode cX5_next 79 = .ok (.iconst 0, 1) := by decide +kernel
theorem dX5_next_80 : decode cX5_next 80 = .ok (.istore 5, 2) := by decide +kernel
theorem dX5_next_82 : decode cX5_next 82 = .ok (.iload 5, 2) := by decide +kernel
theorem dX5_next_84 : decode cX5_next 84 = .ok (.aload_n 0, 1) := by decide +kernel
theorem dX5_next_85 : decode cX5_next 85 = .ok (.getfield 85, 3) := by decide +kernel
theorem dX5_next_88 : decode cX5_next 88 = .ok (.if_icmp .ge 40, 3) := by decide +kernel
theorem dX5_next_91 : decode cX5_next 91 = .ok (.iload 4, 2) := by decide +kernel
theorem dX5_next_93 : decode cX5_next 93 = .ok (.iload 5, 2) := by decide +kernel
theorem dX5_next_95 : decode cX5_next 95 = .ok (.ishr, 1) := by decide +kernel
theorem dX5_next_96 : decode cX5_next 96 = .ok (.iconst 1, 1) := by decide +kernel
theorem dX5_next_97 : decode cX5_next 97 = .ok (.iand, 1) := by decide +kernel
theorem dX5_next_98 : decode cX5_next 98 = .ok (.iconst 1, 1) := by decide +kernel
theorem dX5_next_99 : decode cX5_next 99 = .ok (.if_icmp .ne 23, 3) := by decide +kernel
theorem dX5_next_102 : decode cX5_next 102 = .ok (.iload_n 3, 1) := by decide +kernel
theorem dX5_next_103 : decode cX5_next 103 = .ok (.iconst 1, 1) := by decide +kernel
theorem dX5_next_104 : decode cX5_next 104 = .ok (.iload 5, 2) := by decide +kernel
theorem dX5_next_106 : decode cX5_next 106 = .ok (.ishl, 1) := by decide +kernel
theorem dX5_next_107 : decode cX5_next 107 = .ok (.iconst (-1), 1) := by decide +kernel
theorem dX5_next_108 : decode cX5_next 108 = .ok (.ixor, 1) := by decide +kernel
theorem dX5_next_109 : decode cX5_next 109 = .ok (.iand, 1) := by decide +kernel
theorem dX5_next_110 : decode cX5_next 110 = .ok (.aload_n 0, 1) := by decide +kernel
theorem dX5_next_111 : decode cX5_next 111 = .ok (.getfield 34, 3) := by decide +kernel
theorem dX5_next_114 : decode cX5_next 114 = .ok (.iload 5, 2) := by decide +kernel
theorem dX5_next_116 : decode cX5_next 116 = .ok (.iaload, 1) := by decide +kernel
theorem dX5_next_117 : decode cX5_next 117 = .ok (.iload 5, 2) := by decide +kernel
theorem dX5_next_119 : decode cX5_next 119 = .ok (.ishl, 1) := by decide +kernel
theorem dX5_next_120 : decode cX5_next 120 = .ok (.ior, 1) := by decide +kernel
theorem dX5_next_121 : decode cX5_next 121 = .ok (.istore_n 3, 1) := by decide +kernel
theorem dX5_next_122 : decode cX5_next 122 = .ok (.iinc 5 1, 3) := by decide +kernel
theorem dX5_next_125 : decode cX5_next 125 = .ok (.goto (-43), 3) := by decide +kernel
theorem dX5_next_128 : decode cX5_next 128 = .ok (.iload_n 3, 1) := by decide +kernel
theorem dX5_next_129 : decode cX5_next 129 = .ok (.ireturn, 1) := by decide +kernel
theorem dX5_layLeans_0 : decode cX5_layLeans 0 = .ok (.iconst 0, 1) := by decide +kernel
theorem dX5_layLeans_1 : decode cX5_layLeans 1 = .ok (.istore_n 1, 1) := by decide +kernel
theorem dX5_layLeans_2 : decode cX5_layLeans 2 = .ok (.iload_n 1, 1) := by decide +kernel
theorem dX5_layLeans_3 : decode cX5_layLeans 3 = .ok (.aload_n 0, 1) := by decide +kernel
theorem dX5_layLeans_4 : decode cX5_layLeans 4 = .ok (.getfield 74, 3) := by decide +kernel
theorem dX5_layLeans_7 : decode cX5_layLeans 7 = .ok (.if_icmp .ge 85, 3) := by decide +kernel
theorem dX5_layLeans_10 : decode cX5_layLeans 10 = .ok (.aload_n 0, 1) := by decide +kernel
theorem dX5_layLeans_11 : decode cX5_layLeans 11 = .ok (.getfield 62, 3) := by decide +kernel
theorem dX5_layLeans_14 : decode cX5_layLeans 14 = .ok (.iload_n 1, 1) := by decide +kernel
theorem dX5_layLeans_15 : decode cX5_layLeans 15 = .ok (.aload_n 0, 1) := by decide +kernel
theorem dX5_layLeans_16 : decode cX5_layLeans 16 = .ok (.getfield 7, 3) := by decide +kernel
theorem dX5_layLeans_19 : decode cX5_layLeans 19 = .ok (.iload_n 1, 1) := by decide +kernel
theorem dX5_layLeans_20 : decode cX5_layLeans 20 = .ok (.iaload, 1) := by decide +kernel
theorem dX5_layLeans_21 : decode cX5_layLeans 21 = .ok (.iconst 3, 1) := by decide +kernel
theorem dX5_layLeans_22 : decode cX5_layLeans 22 = .ok (.if_icmp .ne 14, 3) := by decide +kernel
theorem dX5_layLeans_25 : decode cX5_layLeans 25 = .ok (.iconst 1, 1) := by decide +kernel
theorem dX5_layLeans_26 : decode cX5_layLeans 26 = .ok (.aload_n 0, 1) := by decide +kernel
theorem dX5_layLeans_27 : decode cX5_layLeans 27 = .ok (.getfield 13, 3) := by decide +kernel
theorem dX5_layLeans_30 : decode cX5_layLeans 30 = .ok (.iload_n 1, 1) := by decide +kernel
theorem dX5_layLeans_31 : decode cX5_layLeans 31 = .ok (.iaload, 1) := by decide +kernel
theorem dX5_layLeans_32 : decode cX5_layLeans 32 = .ok (.ishl, 1) := by decide +kernel
theorem dX5_layLeans_33 : decode cX5_layLeans 33 = .ok (.goto 52, 3) := by decide +kernel
theorem dX5_layLeans_36 : decode cX5_layLeans 36 = .ok (.aload_n 0, 1) := by decide +kernel
theorem dX5_layLeans_37 : decode cX5_layLeans 37 = .ok (.getfield 7, 3) := by decide +kernel
theorem dX5_layLeans_40 : decode cX5_layLeans 40 = .ok (.iload_n 1, 1) := by decide +kernel
theorem dX5_layLeans_41 : decode cX5_layLeans 41 = .ok (.iaload, 1) := by decide +kernel
theorem dX5_layLeans_42 : decode cX5_layLeans 42 = .ok (.iconst 2, 1) := by decide +kernel
theorem dX5_layLeans_43 : decode cX5_layLeans 43 = .ok (.if_icmp .ne 41, 3) := by decide +kernel
theorem dX5_layLeans_46 : decode cX5_layLeans 46 = .ok (.aload_n 0, 1) := by decide +kernel
theorem dX5_layLeans_47 : decode cX5_layLeans 47 = .ok (.getfield 62, 3) := by decide +kernel
theorem dX5_layLeans_50 : decode cX5_layLeans 50 = .ok (.aload_n 0, 1) := by decide +kernel
theorem dX5_layLeans_51 : decode cX5_layLeans 51 = .ok (.getfield 16, 3) := by decide +kernel
theorem dX5_layLeans_54 : decode cX5_layLeans 54 = .ok (.iload_n 1, 1) := by decide +kernel
theorem dX5_layLeans_55 : decode cX5_layLeans 55 = .ok (.iaload, 1) := by decide +kernel
theorem dX5_layLeans_56 : decode cX5_layLeans 56 = .ok (.iaload, 1) := by decide +kernel
theorem dX5_layLeans_57 : decode cX5_layLeans 57 = .ok (.aload_n 0, 1) := by decide +kernel
theorem dX5_layLeans_58 : decode cX5_layLeans 58 = .ok (.getfield 62, 3) := by decide +kernel
theorem dX5_layLeans_61 : decode cX5_layLeans 61 = .ok (.aload_n 0, 1) := by decide +kernel
theorem dX5_layLeans_62 : decode cX5_layLeans 62 = .ok (.getfield 19, 3) := by decide +kernel
theorem dX5_layLeans_65 : decode cX5_layLeans 65 = .ok (.iload_n 1, 1) := by decide +kernel
theorem dX5_layLeans_66 : decode cX5_layLeans 66 = .ok (.iaload, 1) := by decide +kernel
theorem dX5_layLeans_67 : decode cX5_layLeans 67 = .ok (.iaload, 1) := by decide +kernel
theorem dX5_layLeans_68 : decode cX5_layLeans 68 = .ok (.ior, 1) := by decide +kernel
theorem dX5_layLeans_69 : decode cX5_layLeans 69 = .ok (.aload_n 0, 1) := by decide +kernel
theorem dX5_layLeans_70 : decode cX5_layLeans 70 = .ok (.getfield 62, 3) := by decide +kernel
theorem dX5_layLeans_73 : decode cX5_layLeans 73 = .ok (.aload_n 0, 1) := by decide +kernel
theorem dX5_layLeans_74 : decode cX5_layLeans 74 = .ok (.getfield 22, 3) := by decide +kernel
theorem dX5_layLeans_77 : decode cX5_layLeans 77 = .ok (.iload_n 1, 1) := by decide +kernel
theorem dX5_layLeans_78 : decode cX5_layLeans 78 = .ok (.iaload, 1) := by decide +kernel
theorem dX5_layLeans_79 : decode cX5_layLeans 79 = .ok (.iaload, 1) := by decide +kernel
theorem dX5_layLeans_80 : decode cX5_layLeans 80 = .ok (.ior, 1) := by decide +kernel
theorem dX5_layLeans_81 : decode cX5_layLeans 81 = .ok (.goto 4, 3) := by decide +kernel
theorem dX5_layLeans_84 : decode cX5_layLeans 84 = .ok (.iconst 0, 1) := by decide +kernel
theorem dX5_layLeans_85 : decode cX5_layLeans 85 = .ok (.iastore, 1) := by decide +kernel
theorem dX5_layLeans_86 : decode cX5_layLeans 86 = .ok (.iinc 1 1, 3) := by decide +kernel
theorem dX5_layLeans_89 : decode cX5_layLeans 89 = .ok (.goto (-87), 3) := by decide +kernel
theorem dX5_layLeans_92 : decode cX5_layLeans 92 = .ok (.return_, 1) := by decide +kernel
set_option maxRecDepth 20000 in
theorem ggX5_depends_X5_isNode : GoodIn wsX5_depends wsX5_isNode := goodIn_r _ [9, 10, 11, 12, 8, 13, 21, 22, 23, 24, 25, 26, 27, 28, 29, 30, 31, 32, 33, 34, 35, 36, 37, 38, 39, 40, 41, 42, 43, 44] (by decide +kernel) (by decide +kernel)
set_option maxRecDepth 20000 in
theorem gX5_depends_X5_isNode : GoodIn wsX5_depends (wsV RX5 95 RX5 yX5_isNode wsX5_isNode) := goodIn_app (goodIn_of _ (by decide +kernel)) ggX5_depends_X5_isNode
set_option maxRecDepth 20000 in
theorem ggX5_depends_X5_layLeans : GoodIn wsX5_depends wsX5_layLeans := goodIn_r _ [17, 10, 2, 1, 4, 18, 19, 20, 21, 22, 23, 24, 25, 26, 27, 28, 29, 30, 31, 32, 33, 34, 35, 36, 37, 38, 39, 40, 41, 42, 43, 44] (by decide +kernel) (by decide +kernel)
set_option maxRecDepth 20000 in
theorem gX5_depends_X5_layLeans : GoodIn wsX5_depends (wsV RX5 143 RX5 yX5_layLeans wsX5_layLeans) := goodIn_app (goodIn_of _ (by decide +kernel)) ggX5_depends_X5_layLeans
theorem dX5_depends_0 : decode cX5_depends 0 = .ok (.aload_n 0, 1) := by decide +kernel
theorem dX5_depends_1 : decode cX5_depends 1 = .ok (.iload_n 1, 1) := by decide +kernel
theorem dX5_depends_2 : decode cX5_depends 2 = .ok (.invokevirtual 95, 3) := by decide +kernel
theorem dX5_depends_5 : decode cX5_depends 5 = .ok (.ifCond .eq 11, 3) := by decide +kernel
theorem dX5_depends_8 : decode cX5_depends 8 = .ok (.aload_n 0, 1) := by decide +kernel
theorem dX5_depends_9 : decode cX5_depends 9 = .ok (.iload_n 2, 1) := by decide +kernel
theorem dX5_depends_10 : decode cX5_depends 10 = .ok (.invokevirtual 95, 3) := by decide +kernel
theorem dX5_depends_13 : decode cX5_depends 13 = .ok (.ifCond .ne 5, 3) := by decide +kernel
theorem dX5_depends_16 : decode cX5_depends 16 = .ok (.iconst (-1), 1) := by decide +kernel
theorem dX5_depends_17 : decode cX5_depends 17 = .ok (.ireturn, 1) := by decide +kernel
theorem dX5_depends_18 : decode cX5_depends 18 = .ok (.aload_n 0, 1) := by decide +kernel
theorem dX5_depends_19 : decode cX5_depends 19 = .ok (.getfield 7, 3) := by decide +kernel
theorem dX5_depends_22 : decode cX5_depends 22 = .ok (.iload_n 1, 1) := by decide +kernel
theorem dX5_depends_23 : decode cX5_depends 23 = .ok (.iaload, 1) := by decide +kernel
theorem dX5_depends_24 : decode cX5_depends 24 = .ok (.iconst 3, 1) := by decide +kernel
theorem dX5_depends_25 : decode cX5_depends 25 = .ok (.if_icmp .ne 13, 3) := by decide +kernel
theorem dX5_depends_28 : decode cX5_depends 28 = .ok (.aload_n 0, 1) := by decide +kernel
theorem dX5_depends_29 : decode cX5_depends 29 = .ok (.getfield 7, 3) := by decide +kernel
theorem dX5_depends_32 : decode cX5_depends 32 = .ok (.iload_n 2, 1) := by decide +kernel
theorem dX5_depends_33 : decode cX5_depends 33 = .ok (.iaload, 1) := by decide +kernel
theorem dX5_depends_34 : decode cX5_depends 34 = .ok (.iconst 3, 1) := by decide +kernel
theorem dX5_depends_35 : decode cX5_depends 35 = .ok (.if_icmp .eq 6, 3) := by decide +kernel
theorem dX5_depends_38 : decode cX5_depends 38 = .ok (.bipush (-3), 2) := by decide +kernel
theorem dX5_depends_40 : decode cX5_depends 40 = .ok (.ireturn, 1) := by decide +kernel
theorem dX5_depends_41 : decode cX5_depends 41 = .ok (.aload_n 0, 1) := by decide +kernel
theorem dX5_depends_42 : decode cX5_depends 42 = .ok (.invokevirtual 143, 3) := by decide +kernel
theorem dX5_depends_45 : decode cX5_depends 45 = .ok (.aload_n 0, 1) := by decide +kernel
theorem dX5_depends_46 : decode cX5_depends 46 = .ok (.getfield 62, 3) := by decide +kernel
theorem dX5_depends_49 : decode cX5_depends 49 = .ok (.aload_n 0, 1) := by decide +kernel
theorem dX5_depends_50 : decode cX5_depends 50 = .ok (.getfield 37, 3) := by decide +kernel
theorem dX5_depends_53 : decode cX5_depends 53 = .ok (.aload_n 0, 1) := by decide +kernel
theorem dX5_depends_54 : decode cX5_depends 54 = .ok (.getfield 13, 3) := by decide +kernel
theorem dX5_depends_57 : decode cX5_depends 57 = .ok (.iload_n 1, 1) := by decide +kernel
theorem dX5_depends_58 : decode cX5_depends 58 = .ok (.iaload, 1) := by decide +kernel
theorem dX5_depends_59 : decode cX5_depends 59 = .ok (.iaload, 1) := by decide +kernel
theorem dX5_depends_60 : decode cX5_depends 60 = .ok (.iaload, 1) := by decide +kernel
theorem dX5_depends_61 : decode cX5_depends 61 = .ok (.aload_n 0, 1) := by decide +kernel
theorem dX5_depends_62 : decode cX5_depends 62 = .ok (.getfield 13, 3) := by decide +kernel
theorem dX5_depends_65 : decode cX5_depends 65 = .ok (.iload_n 2, 1) := by decide +kernel
theorem dX5_depends_66 : decode cX5_depends 66 = .ok (.iaload, 1) := by decide +kernel
theorem dX5_depends_67 : decode cX5_depends 67 = .ok (.ishr, 1) := by decide +kernel
theorem dX5_depends_68 : decode cX5_depends 68 = .ok (.iconst 1, 1) := by decide +kernel
theorem dX5_depends_69 : decode cX5_depends 69 = .ok (.iand, 1) := by decide +kernel
theorem dX5_depends_70 : decode cX5_depends 70 = .ok (.ireturn, 1) := by decide +kernel
set_option maxRecDepth 20000 in
theorem ggX5_cross_X5_layLeans : GoodIn wsX5_cross wsX5_layLeans := goodIn_r _ [10, 11, 3, 12, 13, 14, 15, 16, 17, 18, 19, 20, 21, 22, 23, 24, 25, 26, 27, 28, 29, 30, 31, 32, 33, 34, 35, 36, 37, 38, 39, 40] (by decide +kernel) (by decide +kernel)
set_option maxRecDepth 20000 in
theorem gX5_cross_X5_layLeans : GoodIn wsX5_cross (wsV RX5 143 RX5 yX5_layLeans wsX5_layLeans) := goodIn_app (goodIn_of _ (by decide +kernel)) ggX5_cross_X5_layLeans
theorem dX5_cross_0 : decode cX5_cross 0 = .ok (.aload_n 0, 1) := by decide +kernel
theorem dX5_cross_1 : decode cX5_cross 1 = .ok (.invokevirtual 143, 3) := by decide +kernel
theorem dX5_cross_4 : decode cX5_cross 4 = .ok (.iconst 0, 1) := by decide +kernel
theorem dX5_cross_5 : decode cX5_cross 5 = .ok (.istore_n 2, 1) := by decide +kernel
theorem dX5_cross_6 : decode cX5_cross 6 = .ok (.iconst 0, 1) := by decide +kernel
theorem dX5_cross_7 : decode cX5_cross 7 = .ok (.istore_n 3, 1) := by decide +kernel
theorem dX5_cross_8 : decode cX5_cross 8 = .ok (.iload_n 3, 1) := by decide +kernel
theorem dX5_cross_9 : decode cX5_cross 9 = .ok (.aload_n 0, 1) := by decide +kernel
theorem dX5_cross_10 : decode cX5_cross 10 = .ok (.getfield 85, 3) := by decide +kernel
theorem dX5_cross_13 : decode cX5_cross 13 = .ok (.if_icmp .ge 89, 3) := by decide +kernel
theorem dX5_cross_16 : decode cX5_cross 16 = .ok (.iconst 0, 1) := by decide +kernel
theorem dX5_cross_17 : decode cX5_cross 17 = .ok (.istore 4, 2) := by decide +kernel
theorem dX5_cross_19 : decode cX5_cross 19 = .ok (.iload 4, 2) := by decide +kernel
theorem dX5_cross_21 : decode cX5_cross 21 = .ok (.aload_n 0, 1) := by decide +kernel
theorem dX5_cross_22 : decode cX5_cross 22 = .ok (.getfield 85, 3) := by decide +kernel
theorem dX5_cross_25 : decode cX5_cross 25 = .ok (.if_icmp .ge 71, 3) := by decide +kernel
theorem dX5_cross_28 : decode cX5_cross 28 = .ok (.aload_n 0, 1) := by decide +kernel
theorem dX5_cross_29 : decode cX5_cross 29 = .ok (.getfield 31, 3) := by decide +kernel
theorem dX5_cross_32 : decode cX5_cross 32 = .ok (.iload_n 3, 1) := by decide +kernel
theorem dX5_cross_33 : decode cX5_cross 33 = .ok (.iaload, 1) := by decide +kernel
theorem dX5_cross_34 : decode cX5_cross 34 = .ok (.aload_n 0, 1) := by decide +kernel
theorem dX5_cross_35 : decode cX5_cross 35 = .ok (.getfield 31, 3) := by decide +kernel
theorem dX5_cross_38 : decode cX5_cross 38 = .ok (.iload 4, 2) := by decide +kernel
theorem dX5_cross_40 : decode cX5_cross 40 = .ok (.iaload, 1) := by decide +kernel
theorem dX5_cross_41 : decode cX5_cross 41 = .ok (.if_icmp .eq 49, 3) := by decide +kernel
theorem dX5_cross_44 : decode cX5_cross 44 = .ok (.aload_n 0, 1) := by decide +kernel
theorem dX5_cross_45 : decode cX5_cross 45 = .ok (.getfield 62, 3) := by decide +kernel
theorem dX5_cross_48 : decode cX5_cross 48 = .ok (.aload_n 0, 1) := by decide +kernel
theorem dX5_cross_49 : decode cX5_cross 49 = .ok (.getfield 37, 3) := by decide +kernel
theorem dX5_cross_52 : decode cX5_cross 52 = .ok (.iload 4, 2) := by decide +kernel
theorem dX5_cross_54 : decode cX5_cross 54 = .ok (.iaload, 1) := by decide +kernel
theorem dX5_cross_55 : decode cX5_cross 55 = .ok (.iaload, 1) := by decide +kernel
theorem dX5_cross_56 : decode cX5_cross 56 = .ok (.iload_n 3, 1) := by decide +kernel
theorem dX5_cross_57 : decode cX5_cross 57 = .ok (.ishr, 1) := by decide +kernel
theorem dX5_cross_58 : decode cX5_cross 58 = .ok (.iconst 1, 1) := by decide +kernel
theorem dX5_cross_59 : decode cX5_cross 59 = .ok (.iand, 1) := by decide +kernel
theorem dX5_cross_60 : decode cX5_cross 60 = .ok (.iconst 1, 1) := by decide +kernel
theorem dX5_cross_61 : decode cX5_cross 61 = .ok (.if_icmp .ne 29, 3) := by decide +kernel
theorem dX5_cross_64 : decode cX5_cross 64 = .ok (.iload_n 2, 1) := by decide +kernel
theorem dX5_cross_65 : decode cX5_cross 65 = .ok (.iload_n 1, 1) := by decide +kernel
theorem dX5_cross_66 : decode cX5_cross 66 = .ok (.if_icmp .ne 21, 3) := by decide +kernel
theorem dX5_cross_69 : decode cX5_cross 69 = .ok (.bipush 100, 2) := by decide +kernel
theorem dX5_cross_71 : decode cX5_cross 71 = .ok (.aload_n 0, 1) := by decide +kernel
theorem dX5_cross_72 : decode cX5_cross 72 = .ok (.getfield 28, 3) := by decide +kernel
theorem dX5_cross_75 : decode cX5_cross 75 = .ok (.iload_n 3, 1) := by decide +kernel
theorem dX5_cross_76 : decode cX5_cross 76 = .ok (.iaload, 1) := by decide +kernel
theorem dX5_cross_77 : decode cX5_cross 77 = .ok (.imul, 1) := by decide +kernel
theorem dX5_cross_78 : decode cX5_cross 78 = .ok (.aload_n 0, 1) := by decide +kernel
theorem dX5_cross_79 : decode cX5_cross 79 = .ok (.getfield 28, 3) := by decide +kernel
theorem dX5_cross_82 : decode cX5_cross 82 = .ok (.iload 4, 2) := by decide +kernel
theorem dX5_cross_84 : decode cX5_cross 84 = .ok (.iaload, 1) := by decide +kernel
theorem dX5_cross_85 : decode cX5_cross 85 = .ok (.iadd, 1) := by decide +kernel
theorem dX5_cross_86 : decode cX5_cross 86 = .ok (.ireturn, 1) := by decide +kernel
theorem dX5_cross_87 : decode cX5_cross 87 = .ok (.iinc 2 1, 3) := by decide +kernel
theorem dX5_cross_90 : decode cX5_cross 90 = .ok (.iinc 4 1, 3) := by decide +kernel
theorem dX5_cross_93 : decode cX5_cross 93 = .ok (.goto (-74), 3) := by decide +kernel
theorem dX5_cross_96 : decode cX5_cross 96 = .ok (.iinc 3 1, 3) := by decide +kernel
theorem dX5_cross_99 : decode cX5_cross 99 = .ok (.goto (-91), 3) := by decide +kernel
theorem dX5_cross_102 : decode cX5_cross 102 = .ok (.iload_n 1, 1) := by decide +kernel
theorem dX5_cross_103 : decode cX5_cross 103 = .ok (.ifCond .ge 7, 3) := by decide +kernel
theorem dX5_cross_106 : decode cX5_cross 106 = .ok (.iload_n 2, 1) := by decide +kernel
theorem dX5_cross_107 : decode cX5_cross 107 = .ok (.goto 5, 3) := by decide +kernel
theorem dX5_cross_110 : decode cX5_cross 110 = .ok (.bipush (-9), 2) := by decide +kernel
theorem dX5_cross_112 : decode cX5_cross 112 = .ok (.ireturn, 1) := by decide +kernel
set_option maxRecDepth 20000 in
theorem ggX5_crossings_X5_cross : GoodIn wsX5_crossings wsX5_cross := goodIn_r _ [5, 6, 7, 8, 9, 10, 11, 12, 13, 4, 14, 15, 16, 17, 18, 19, 20, 21, 22, 23, 24, 25, 26, 27, 28, 29, 30, 31, 32, 33, 34, 35, 36, 37, 38, 39, 40, 41, 42, 43, 44] (by decide +kernel) (by decide +kernel)
set_option maxRecDepth 20000 in
theorem gX5_crossings_X5_cross : GoodIn wsX5_crossings (wsV RX5 146 RX5 yX5_cross wsX5_cross) := goodIn_app (goodIn_of _ (by decide +kernel)) ggX5_crossings_X5_cross
theorem dX5_crossings_0 : decode cX5_crossings 0 = .ok (.aload_n 0, 1) := by decide +kernel
theorem dX5_crossings_1 : decode cX5_crossings 1 = .ok (.iconst (-1), 1) := by decide +kernel
theorem dX5_crossings_2 : decode cX5_crossings 2 = .ok (.invokevirtual 146, 3) := by decide +kernel
theorem dX5_crossings_5 : decode cX5_crossings 5 = .ok (.ireturn, 1) := by decide +kernel
set_option maxRecDepth 20000 in
theorem ggX5_crossing_X5_cross : GoodIn wsX5_crossing wsX5_cross := goodIn_r _ [5, 6, 7, 8, 9, 10, 11, 12, 13, 4, 14, 15, 16, 17, 18, 19, 20, 21, 22, 23, 24, 25, 26, 27, 28, 29, 30, 31, 32, 33, 34, 35, 36, 37, 38, 39, 40, 41, 42, 43, 44] (by decide +kernel) (by decide +kernel)
set_option maxRecDepth 20000 in
theorem gX5_crossing_X5_cross : GoodIn wsX5_crossing (wsV RX5 146 RX5 yX5_cross wsX5_cross) := goodIn_app (goodIn_of _ (by decide +kernel)) ggX5_crossing_X5_cross
theorem dX5_crossing_0 : decode cX5_crossing 0 = .ok (.iload_n 1, 1) := by decide +kernel
theorem dX5_crossing_1 : decode cX5_crossing 1 = .ok (.ifCond .ge 8, 3) := by decide +kernel
theorem dX5_crossing_4 : decode cX5_crossing 4 = .ok (.bipush (-9), 2) := by decide +kernel
theorem dX5_crossing_6 : decode cX5_crossing 6 = .ok (.goto 8, 3) := by decide +kernel
theorem dX5_crossing_9 : decode cX5_crossing 9 = .ok (.aload_n 0, 1) := by decide +kernel
theorem dX5_crossing_10 : decode cX5_crossing 10 = .ok (.iload_n 1, 1) := by decide +kernel
theorem dX5_crossing_11 : decode cX5_crossing 11 = .ok (.invokevirtual 146, 3) := by decide +kernel
theorem dX5_crossing_14 : decode cX5_crossing 14 = .ok (.ireturn, 1) := by decide +kernel
set_option maxRecDepth 20000 in
theorem ggX5_alone_X5_in : GoodIn wsX5_alone wsX5_in := goodIn_r _ [6] (by decide +kernel) (by decide +kernel)
set_option maxRecDepth 20000 in
theorem gX5_alone_X5_in : GoodIn wsX5_alone (va_wsS RX5 78 yX5_in wsX5_in) := goodIn_app (goodIn_of _ (by decide +kernel)) ggX5_alone_X5_in
set_option maxRecDepth 20000 in
theorem ggX5_alone_X5_layLeads : GoodIn wsX5_alone wsX5_layLeads := goodIn_r _ [10, 1, 11, 12, 13, 14, 15, 16, 17, 5, 18, 19, 20, 21, 22, 23, 24, 25, 26, 27, 53, 54, 55, 56, 57, 58, 59, 60, 61, 62, 63, 64, 65, 66, 67, 68, 69, 70, 71, 72, 73, 74, 75, 76] (by decide +kernel) (by decide +kernel)
set_option maxRecDepth 20000 in
theorem gX5_alone_X5_layLeads : GoodIn wsX5_alone (wsV RX5 114 RX5 yX5_layLeads wsX5_layLeads) := goodIn_app (goodIn_of _ (by decide +kernel)) ggX5_alone_X5_layLeads
set_option maxRecDepth 20000 in
theorem ggX5_alone_X5_load : GoodIn wsX5_alone wsX5_load := goodIn_r _ [31, 32, 1, 33, 53, 54, 55, 56, 57, 58, 59, 60, 61, 62, 63, 64, 65, 66, 67, 68, 69, 70, 71, 72, 73, 74, 75, 76] (by decide +kernel) (by decide +kernel)
set_option maxRecDepth 20000 in
theorem gX5_alone_X5_load : GoodIn wsX5_alone (wsV RX5 117 RX5 yX5_load wsX5_load) := goodIn_app (goodIn_of _ (by decide +kernel)) ggX5_alone_X5_load
set_option maxRecDepth 20000 in
theorem ggX5_alone_X5_settle : GoodIn wsX5_alone wsX5_settle := goodIn_r _ [37, 38, 39, 40, 5, 41, 32, 42, 43, 44, 45, 1, 46, 47, 11, 14, 48, 49, 50, 51, 52, 53, 54, 55, 56, 57, 58, 59, 60, 61, 62, 63, 64, 65, 66, 67, 68, 69, 70, 71, 72, 73, 74, 75, 76] (by decide +kernel) (by decide +kernel)
set_option maxRecDepth 20000 in
theorem gX5_alone_X5_settle : GoodIn wsX5_alone (wsV RX5 139 RX5 yX5_settle wsX5_settle) := goodIn_app (goodIn_of _ (by decide +kernel)) ggX5_alone_X5_settle
theorem dX5_alone_0 : decode cX5_alone 0 = .ok (.iload_n 1, 1) := by decide +kernel
theorem dX5_alone_1 : decode cX5_alone 1 = .ok (.iconst 0, 1) := by decide +kernel
theorem dX5_alone_2 : decode cX5_alone 2 = .ok (.iconst 3, 1) := by decide +kernel
theorem dX5_alone_3 : decode cX5_alone 3 = .ok (.invokestatic 78, 3) := by decide +kernel
theorem dX5_alone_6 : decode cX5_alone 6 = .ok (.ifCond .ne 5, 3) := by decide +kernel
theorem dX5_alone_9 : decode cX5_alone 9 = .ok (.iconst (-1), 1) := by decide +kernel
theorem dX5_alone_10 : decode cX5_alone 10 = .ok (.ireturn, 1) := by decide +kernel
theorem dX5_alone_11 : decode cX5_alone 11 = .ok (.aload_n 0, 1) := by decide +kernel
theorem dX5_alone_12 : decode cX5_alone 12 = .ok (.invokevirtual 114, 3) := by decide +kernel
theorem dX5_alone_15 : decode cX5_alone 15 = .ok (.aload_n 0, 1) := by decide +kernel
theorem dX5_alone_16 : decode cX5_alone 16 = .ok (.iconst 1, 1) := by decide +kernel
theorem dX5_alone_17 : decode cX5_alone 17 = .ok (.invokevirtual 117, 3) := by decide +kernel
theorem dX5_alone_20 : decode cX5_alone 20 = .ok (.iconst 0, 1) := by decide +kernel
theorem dX5_alone_21 : decode cX5_alone 21 = .ok (.istore_n 2, 1) := by decide +kernel
theorem dX5_alone_22 : decode cX5_alone 22 = .ok (.iconst 0, 1) := by decide +kernel
theorem dX5_alone_23 : decode cX5_alone 23 = .ok (.istore_n 3, 1) := by decide +kernel
theorem dX5_alone_24 : decode cX5_alone 24 = .ok (.iload_n 3, 1) := by decide +kernel
theorem dX5_alone_25 : decode cX5_alone 25 = .ok (.aload_n 0, 1) := by decide +kernel
theorem dX5_alone_26 : decode cX5_alone 26 = .ok (.getfield 85, 3) := by decide +kernel
theorem dX5_alone_29 : decode cX5_alone 29 = .ok (.if_icmp .ge 29, 3) := by decide +kernel
theorem dX5_alone_32 : decode cX5_alone 32 = .ok (.iload_n 2, 1) := by decide +kernel
theorem dX5_alone_33 : decode cX5_alone 33 = .ok (.aload_n 0, 1) := by decide +kernel
theorem dX5_alone_34 : decode cX5_alone 34 = .ok (.getfield 31, 3) := by decide +kernel
theorem dX5_alone_37 : decode cX5_alone 37 = .ok (.iload_n 3, 1) := by decide +kernel
theorem dX5_alone_38 : decode cX5_alone 38 = .ok (.iaload, 1) := by decide +kernel
theorem dX5_alone_39 : decode cX5_alone 39 = .ok (.iload_n 1, 1) := by decide +kernel
theorem dX5_alone_40 : decode cX5_alone 40 = .ok (.if_icmp .ne 9, 3) := by decide +kernel
theorem dX5_alone_43 : decode cX5_alone 43 = .ok (.iconst 1, 1) := by decide +kernel
theorem dX5_alone_44 : decode cX5_alone 44 = .ok (.iload_n 3, 1) := by decide +kernel
theorem dX5_alone_45 : decode cX5_alone 45 = .ok (.ishl, 1) := by decide +kernel
theorem dX5_alone_46 : decode cX5_alone 46 = .ok (.goto 4, 3) := by decide +kernel
theorem dX5_alone_49 : decode cX5_alone 49 = .ok (.iconst 0, 1) := by decide +kernel
theorem dX5_alone_50 : decode cX5_alone 50 = .ok (.ior, 1) := by decide +kernel
theorem dX5_alone_51 : decode cX5_alone 51 = .ok (.istore_n 2, 1) := by decide +kernel
theorem dX5_alone_52 : decode cX5_alone 52 = .ok (.iinc 3 1, 3) := by decide +kernel
theorem dX5_alone_55 : decode cX5_alone 55 = .ok (.goto (-31), 3) := by decide +kernel
theorem dX5_alone_58 : decode cX5_alone 58 = .ok (.aload_n 0, 1) := by decide +kernel
theorem dX5_alone_59 : decode cX5_alone 59 = .ok (.iload_n 2, 1) := by decide +kernel
theorem dX5_alone_60 : decode cX5_alone 60 = .ok (.iconst 1, 1) := by decide +kernel
theorem dX5_alone_61 : decode cX5_alone 61 = .ok (.invokevirtual 139, 3) := by decide +kernel
theorem dX5_alone_64 : decode cX5_alone 64 = .ok (.ireturn, 1) := by decide +kernel
theorem dX5_ones_0 : decode cX5_ones 0 = .ok (.iconst 0, 1) := by decide +kernel
theorem dX5_ones_1 : decode cX5_ones 1 = .ok (.istore_n 1, 1) := by decide +kernel
theorem dX5_ones_2 : decode cX5_ones 2 = .ok (.iconst 0, 1) := by decide +kernel
theorem dX5_ones_3 : decode cX5_ones 3 = .ok (.istore_n 2, 1) := by decide +kernel
theorem dX5_ones_4 : decode cX5_ones 4 = .ok (.iload_n 2, 1) := by decide +kernel
theorem dX5_ones_5 : decode cX5_ones 5 = .ok (.bipush 6, 2) := by decide +kernel
theorem dX5_ones_7 : decode cX5_ones 7 = .ok (.if_icmp .ge 17, 3) := by decide +kernel
theorem dX5_ones_10 : decode cX5_ones 10 = .ok (.iload_n 1, 1) := by decide +kernel
theorem dX5_ones_11 : decode cX5_ones 11 = .ok (.iload_n 0, 1) := by decide +kernel
theorem dX5_ones_12 : decode cX5_ones 12 = .ok (.iload_n 2, 1) := by decide +kernel
theorem dX5_ones_13 : decode cX5_ones 13 = .ok (.ishr, 1) := by decide +kernel
theorem dX5_ones_14 : decode cX5_ones 14 = .ok (.iconst 1, 1) := by decide +kernel
theorem dX5_ones_15 : decode cX5_ones 15 = .ok (.iand, 1) := by decide +kernel
theorem dX5_ones_16 : decode cX5_ones 16 = .ok (.iadd, 1) := by decide +kernel
theorem dX5_ones_17 : decode cX5_ones 17 = .ok (.istore_n 1, 1) := by decide +kernel
theorem dX5_ones_18 : decode cX5_ones 18 = .ok (.iinc 2 1, 3) := by decide +kernel
theorem dX5_ones_21 : decode cX5_ones 21 = .ok (.goto (-17), 3) := by decide +kernel
theorem dX5_ones_24 : decode cX5_ones 24 = .ok (.iload_n 1, 1) := by decide +kernel
theorem dX5_ones_25 : decode cX5_ones 25 = .ok (.ireturn, 1) := by decide +kernel
set_option maxRecDepth 20000 in
theorem ggX5_mend_X5_in : GoodIn wsX5_mend wsX5_in := goodIn_r _ [6] (by decide +kernel) (by decide +kernel)
set_option maxRecDepth 20000 in
theorem gX5_mend_X5_in : GoodIn wsX5_mend (va_wsS RX5 78 yX5_in wsX5_in) := goodIn_app (goodIn_of _ (by decide +kernel)) ggX5_mend_X5_in
set_option maxRecDepth 20000 in
theorem ggX5_mend_X5_layLeads : GoodIn wsX5_mend wsX5_layLeads := goodIn_r _ [10, 1, 11, 12, 13, 14, 15, 16, 17, 5, 18, 19, 20, 21, 22, 23, 24, 25, 26, 27, 52, 53, 54, 55, 56, 57, 58, 59, 60, 61, 62, 63, 64, 65, 66, 67, 68, 69, 70, 71, 72, 73, 74, 75] (by decide +kernel) (by decide +kernel)
set_option maxRecDepth 20000 in
theorem gX5_mend_X5_layLeads : GoodIn wsX5_mend (wsV RX5 114 RX5 yX5_layLeads wsX5_layLeads) := goodIn_app (goodIn_of _ (by decide +kernel)) ggX5_mend_X5_layLeads
set_option maxRecDepth 20000 in
theorem ggX5_mend_X5_ones : GoodIn wsX5_mend wsX5_ones := goodIn_r _ [30] (by decide +kernel) (by decide +kernel)
set_option maxRecDepth 20000 in
theorem gX5_mend_X5_ones : GoodIn wsX5_mend (va_wsS RX5 149 yX5_ones wsX5_ones) := goodIn_app (goodIn_of _ (by decide +kernel)) ggX5_mend_X5_ones
set_option maxRecDepth 20000 in
theorem ggX5_mend_X5_load : GoodIn wsX5_mend wsX5_load := goodIn_r _ [34, 35, 1, 36, 52, 53, 54, 55, 56, 57, 58, 59, 60, 61, 62, 63, 64, 65, 66, 67, 68, 69, 70, 71, 72, 73, 74, 75] (by decide +kernel) (by decide +kernel)
set_option maxRecDepth 20000 in
theorem gX5_mend_X5_load : GoodIn wsX5_mend (wsV RX5 117 RX5 yX5_load wsX5_load) := goodIn_app (goodIn_of _ (by decide +kernel)) ggX5_mend_X5_load
set_option maxRecDepth 20000 in
theorem ggX5_mend_X5_step : GoodIn wsX5_mend wsX5_step := goodIn_r _ [40, 1, 41, 42, 11, 35, 14, 43, 44, 45, 5, 46, 47, 52, 53, 54, 55, 56, 57, 58, 59, 60, 61, 62, 63, 64, 65, 66, 67, 68, 69, 70, 71, 72, 73, 74, 75] (by decide +kernel) (by decide +kernel)
set_option maxRecDepth 20000 in
theorem gX5_mend_X5_step : GoodIn wsX5_mend (wsV RX5 125 RX5 yX5_step wsX5_step) := goodIn_app (goodIn_of _ (by decide +kernel)) ggX5_mend_X5_step
set_option maxRecDepth 20000 in
theorem ggX5_mend_X5_many : GoodIn wsX5_mend wsX5_many := goodIn_r _ [51, 35, 52, 53, 54, 55, 56, 57, 58, 59, 60, 61, 62, 63, 64, 65, 66, 67, 68, 69, 70, 71, 72, 73, 74, 75] (by decide +kernel) (by decide +kernel)
set_option maxRecDepth 20000 in
theorem gX5_mend_X5_many : GoodIn wsX5_mend (wsV RX5 132 RX5 yX5_many wsX5_many) := goodIn_app (goodIn_of _ (by decide +kernel)) ggX5_mend_X5_many
theorem dX5_mend_0 : decode cX5_mend 0 = .ok (.iload_n 1, 1) := by decide +kernel
theorem dX5_mend_1 : decode cX5_mend 1 = .ok (.iconst 1, 1) := by decide +kernel
theorem dX5_mend_2 : decode cX5_mend 2 = .ok (.bipush 64, 2) := by decide +kernel
theorem dX5_mend_4 : decode cX5_mend 4 = .ok (.invokestatic 78, 3) := by decide +kernel
theorem dX5_mend_7 : decode cX5_mend 7 = .ok (.ifCond .ne 6, 3) := by decide +kernel
theorem dX5_mend_10 : decode cX5_mend 10 = .ok (.bipush (-2), 2) := by decide +kernel
theorem dX5_mend_12 : decode cX5_mend 12 = .ok (.ireturn, 1) := by decide +kernel
theorem dX5_mend_13 : decode cX5_mend 13 = .ok (.aload_n 0, 1) := by decide +kernel
theorem dX5_mend_14 : decode cX5_mend 14 = .ok (.invokevirtual 114, 3) := by decide +kernel
theorem dX5_mend_17 : decode cX5_mend 17 = .ok (.iconst 0, 1) := by decide +kernel
theorem dX5_mend_18 : decode cX5_mend 18 = .ok (.istore_n 2, 1) := by decide +kernel
theorem dX5_mend_19 : decode cX5_mend 19 = .ok (.iconst 0, 1) := by decide +kernel
theorem dX5_mend_20 : decode cX5_mend 20 = .ok (.istore_n 3, 1) := by decide +kernel
theorem dX5_mend_21 : decode cX5_mend 21 = .ok (.iload_n 3, 1) := by decide +kernel
theorem dX5_mend_22 : decode cX5_mend 22 = .ok (.aload_n 0, 1) := by decide +kernel
theorem dX5_mend_23 : decode cX5_mend 23 = .ok (.getfield 85, 3) := by decide +kernel
theorem dX5_mend_26 : decode cX5_mend 26 = .ok (.if_icmp .ge 30, 3) := by decide +kernel
theorem dX5_mend_29 : decode cX5_mend 29 = .ok (.iload_n 2, 1) := by decide +kernel
theorem dX5_mend_30 : decode cX5_mend 30 = .ok (.aload_n 0, 1) := by decide +kernel
theorem dX5_mend_31 : decode cX5_mend 31 = .ok (.getfield 31, 3) := by decide +kernel
theorem dX5_mend_34 : decode cX5_mend 34 = .ok (.iload_n 3, 1) := by decide +kernel
theorem dX5_mend_35 : decode cX5_mend 35 = .ok (.iaload, 1) := by decide +kernel
theorem dX5_mend_36 : decode cX5_mend 36 = .ok (.bipush (-9), 2) := by decide +kernel
theorem dX5_mend_38 : decode cX5_mend 38 = .ok (.if_icmp .eq 9, 3) := by decide +kernel
theorem dX5_mend_41 : decode cX5_mend 41 = .ok (.iconst 1, 1) := by decide +kernel
theorem dX5_mend_42 : decode cX5_mend 42 = .ok (.iload_n 3, 1) := by decide +kernel
theorem dX5_mend_43 : decode cX5_mend 43 = .ok (.ishl, 1) := by decide +kernel
theorem dX5_mend_44 : decode cX5_mend 44 = .ok (.goto 4, 3) := by decide +kernel
theorem dX5_mend_47 : decode cX5_mend 47 = .ok (.iconst 0, 1) := by decide +kernel
theorem dX5_mend_48 : decode cX5_mend 48 = .ok (.ior, 1) := by decide +kernel
theorem dX5_mend_49 : decode cX5_mend 49 = .ok (.istore_n 2, 1) := by decide +kernel
theorem dX5_mend_50 : decode cX5_mend 50 = .ok (.iinc 3 1, 3) := by decide +kernel
theorem dX5_mend_53 : decode cX5_mend 53 = .ok (.goto (-32), 3) := by decide +kernel
theorem dX5_mend_56 : decode cX5_mend 56 = .ok (.bipush (-9), 2) := by decide +kernel
theorem dX5_mend_58 : decode cX5_mend 58 = .ok (.istore_n 3, 1) := by decide +kernel
theorem dX5_mend_59 : decode cX5_mend 59 = .ok (.iconst 0, 1) := by decide +kernel
theorem dX5_mend_60 : decode cX5_mend 60 = .ok (.istore 4, 2) := by decide +kernel
theorem dX5_mend_62 : decode cX5_mend 62 = .ok (.iload 4, 2) := by decide +kernel
theorem dX5_mend_64 : decode cX5_mend 64 = .ok (.iconst 1, 1) := by decide +kernel
theorem dX5_mend_65 : decode cX5_mend 65 = .ok (.aload_n 0, 1) := by decide +kernel
theorem dX5_mend_66 : decode cX5_mend 66 = .ok (.getfield 85, 3) := by decide +kernel
theorem dX5_mend_69 : decode cX5_mend 69 = .ok (.ishl, 1) := by decide +kernel
theorem dX5_mend_70 : decode cX5_mend 70 = .ok (.if_icmp .ge 78, 3) := by decide +kernel
theorem dX5_mend_73 : decode cX5_mend 73 = .ok (.iload 4, 2) := by decide +kernel
theorem dX5_mend_75 : decode cX5_mend 75 = .ok (.iload_n 2, 1) := by decide +kernel
theorem dX5_mend_76 : decode cX5_mend 76 = .ok (.iand, 1) := by decide +kernel
theorem dX5_mend_77 : decode cX5_mend 77 = .ok (.ifCond .ne 65, 3) := by decide +kernel
theorem dX5_mend_80 : decode cX5_mend 80 = .ok (.iload_n 3, 1) := by decide +kernel
theorem dX5_mend_81 : decode cX5_mend 81 = .ok (.bipush (-9), 2) := by decide +kernel
theorem dX5_mend_83 : decode cX5_mend 83 = .ok (.if_icmp .eq 15, 3) := by decide +kernel
theorem dX5_mend_86 : decode cX5_mend 86 = .ok (.iload 4, 2) := by decide +kernel
theorem dX5_mend_88 : decode cX5_mend 88 = .ok (.invokestatic 149, 3) := by decide +kernel
theorem dX5_mend_91 : decode cX5_mend 91 = .ok (.iload_n 3, 1) := by decide +kernel
theorem dX5_mend_92 : decode cX5_mend 92 = .ok (.invokestatic 149, 3) := by decide +kernel
theorem dX5_mend_95 : decode cX5_mend 95 = .ok (.if_icmp .ge 47, 3) := by decide +kernel
theorem dX5_mend_98 : decode cX5_mend 98 = .ok (.aload_n 0, 1) := by decide +kernel
theorem dX5_mend_99 : decode cX5_mend 99 = .ok (.iconst 1, 1) := by decide +kernel
theorem dX5_mend_100 : decode cX5_mend 100 = .ok (.invokevirtual 117, 3) := by decide +kernel
theorem dX5_mend_103 : decode cX5_mend 103 = .ok (.iconst 0, 1) := by decide +kernel
theorem dX5_mend_104 : decode cX5_mend 104 = .ok (.istore 5, 2) := by decide +kernel
theorem dX5_mend_106 : decode cX5_mend 106 = .ok (.iload 5, 2) := by decide +kernel
theorem dX5_mend_108 : decode cX5_mend 108 = .ok (.iload_n 1, 1) := by decide +kernel
theorem dX5_mend_109 : decode cX5_mend 109 = .ok (.if_icmp .ge 18, 3) := by decide +kernel
theorem dX5_mend_112 : decode cX5_mend 112 = .ok (.aload_n 0, 1) := by decide +kernel
theorem dX5_mend_113 : decode cX5_mend 113 = .ok (.iload_n 2, 1) := by decide +kernel
theorem dX5_mend_114 : decode cX5_mend 114 = .ok (.iload 4, 2) := by decide +kernel
theorem dX5_mend_116 : decode cX5_mend 116 = .ok (.ior, 1) := by decide +kernel
theorem dX5_mend_117 : decode cX5_mend 117 = .ok (.iconst 0, 1) := by decide +kernel
theorem dX5_mend_118 : decode cX5_mend 118 = .ok (.invokevirtual 125, 3) := by decide +kernel
theorem dX5_mend_121 : decode cX5_mend 121 = .ok (.iinc 5 1, 3) := by decide +kernel
theorem dX5_mend_124 : decode cX5_mend 124 = .ok (.goto (-18), 3) := by decide +kernel
theorem dX5_mend_127 : decode cX5_mend 127 = .ok (.aload_n 0, 1) := by decide +kernel
theorem dX5_mend_128 : decode cX5_mend 128 = .ok (.invokevirtual 132, 3) := by decide +kernel
theorem dX5_mend_131 : decode cX5_mend 131 = .ok (.iconst 1, 1) := by decide +kernel
theorem dX5_mend_132 : decode cX5_mend 132 = .ok (.if_icmp .ne 8, 3) := by decide +kernel
theorem dX5_mend_135 : decode cX5_mend 135 = .ok (.iload 4, 2) := by decide +kernel
theorem dX5_mend_137 : decode cX5_mend 137 = .ok (.goto 4, 3) := by decide +kernel
theorem dX5_mend_140 : decode cX5_mend 140 = .ok (.iload_n 3, 1) := by decide +kernel
theorem dX5_mend_141 : decode cX5_mend 141 = .ok (.istore_n 3, 1) := by decide +kernel
theorem dX5_mend_142 : decode cX5_mend 142 = .ok (.iinc 4 1, 3) := by decide +kernel
theorem dX5_mend_145 : decode cX5_mend 145 = .ok (.goto (-83), 3) := by decide +kernel
theorem dX5_mend_148 : decode cX5_mend 148 = .ok (.iload_n 3, 1) := by decide +kernel
theorem dX5_mend_149 : decode cX5_mend 149 = .ok (.ireturn, 1) := by decide +kernel
set_option maxRecDepth 20000 in
theorem ggX5_need_X5_in : GoodIn wsX5_need wsX5_in := goodIn_r _ [5] (by decide +kernel) (by decide +kernel)
set_option maxRecDepth 20000 in
theorem gX5_need_X5_in : GoodIn wsX5_need (va_wsS RX5 78 yX5_in wsX5_in) := goodIn_app (goodIn_of _ (by decide +kernel)) ggX5_need_X5_in
theorem dX5_need_0 : decode cX5_need 0 = .ok (.iload_n 1, 1) := by decide +kernel
theorem dX5_need_1 : decode cX5_need 1 = .ok (.iconst 0, 1) := by decide +kernel
theorem dX5_need_2 : decode cX5_need 2 = .ok (.iconst 3, 1) := by decide +kernel
theorem dX5_need_3 : decode cX5_need 3 = .ok (.invokestatic 78, 3) := by decide +kernel
theorem dX5_need_6 : decode cX5_need 6 = .ok (.ifCond .eq 12, 3) := by decide +kernel
theorem dX5_need_9 : decode cX5_need 9 = .ok (.iload_n 2, 1) := by decide +kernel
theorem dX5_need_10 : decode cX5_need 10 = .ok (.iconst 0, 1) := by decide +kernel
theorem dX5_need_11 : decode cX5_need 11 = .ok (.iconst 3, 1) := by decide +kernel
theorem dX5_need_12 : decode cX5_need 12 = .ok (.invokestatic 78, 3) := by decide +kernel
theorem dX5_need_15 : decode cX5_need 15 = .ok (.ifCond .ne 5, 3) := by decide +kernel
theorem dX5_need_18 : decode cX5_need 18 = .ok (.iconst (-1), 1) := by decide +kernel
theorem dX5_need_19 : decode cX5_need 19 = .ok (.ireturn, 1) := by decide +kernel
theorem dX5_need_20 : decode cX5_need 20 = .ok (.iload_n 3, 1) := by decide +kernel
theorem dX5_need_21 : decode cX5_need 21 = .ok (.bipush (-9), 2) := by decide +kernel
theorem dX5_need_23 : decode cX5_need 23 = .ok (.if_icmp .eq 16, 3) := by decide +kernel
theorem dX5_need_26 : decode cX5_need 26 = .ok (.iload_n 3, 1) := by decide +kernel
theorem dX5_need_27 : decode cX5_need 27 = .ok (.iconst 0, 1) := by decide +kernel
theorem dX5_need_28 : decode cX5_need 28 = .ok (.bipush 20, 2) := by decide +kernel
theorem dX5_need_30 : decode cX5_need 30 = .ok (.invokestatic 78, 3) := by decide +kernel
theorem dX5_need_33 : decode cX5_need 33 = .ok (.ifCond .ne 6, 3) := by decide +kernel
theorem dX5_need_36 : decode cX5_need 36 = .ok (.bipush (-2), 2) := by decide +kernel
theorem dX5_need_38 : decode cX5_need 38 = .ok (.ireturn, 1) := by decide +kernel
theorem dX5_need_39 : decode cX5_need 39 = .ok (.aload_n 0, 1) := by decide +kernel
theorem dX5_need_40 : decode cX5_need 40 = .ok (.getfield 65, 3) := by decide +kernel
theorem dX5_need_43 : decode cX5_need 43 = .ok (.iconst 4, 1) := by decide +kernel
theorem dX5_need_44 : decode cX5_need 44 = .ok (.iload_n 1, 1) := by decide +kernel
theorem dX5_need_45 : decode cX5_need 45 = .ok (.imul, 1) := by decide +kernel
theorem dX5_need_46 : decode cX5_need 46 = .ok (.iload_n 2, 1) := by decide +kernel
theorem dX5_need_47 : decode cX5_need 47 = .ok (.iadd, 1) := by decide +kernel
theorem dX5_need_48 : decode cX5_need 48 = .ok (.iaload, 1) := by decide +kernel
theorem dX5_need_49 : decode cX5_need 49 = .ok (.istore 4, 2) := by decide +kernel
theorem dX5_need_51 : decode cX5_need 51 = .ok (.aload_n 0, 1) := by decide +kernel
theorem dX5_need_52 : decode cX5_need 52 = .ok (.getfield 65, 3) := by decide +kernel
theorem dX5_need_55 : decode cX5_need 55 = .ok (.iconst 4, 1) := by decide +kernel
theorem dX5_need_56 : decode cX5_need 56 = .ok (.iload_n 1, 1) := by decide +kernel
theorem dX5_need_57 : decode cX5_need 57 = .ok (.imul, 1) := by decide +kernel
theorem dX5_need_58 : decode cX5_need 58 = .ok (.iload_n 2, 1) := by decide +kernel
theorem dX5_need_59 : decode cX5_need 59 = .ok (.iadd, 1) := by decide +kernel
theorem dX5_need_60 : decode cX5_need 60 = .ok (.iload_n 3, 1) := by decide +kernel
theorem dX5_need_61 : decode cX5_need 61 = .ok (.iastore, 1) := by decide +kernel
theorem dX5_need_62 : decode cX5_need 62 = .ok (.iload 4, 2) := by decide +kernel
theorem dX5_need_64 : decode cX5_need 64 = .ok (.ireturn, 1) := by decide +kernel
theorem dX5_layGoes_0 : decode cX5_layGoes 0 = .ok (.iconst 0, 1) := by decide +kernel
theorem dX5_layGoes_1 : decode cX5_layGoes 1 = .ok (.istore_n 1, 1) := by decide +kernel
theorem dX5_layGoes_2 : decode cX5_layGoes 2 = .ok (.iload_n 1, 1) := by decide +kernel
theorem dX5_layGoes_3 : decode cX5_layGoes 3 = .ok (.iconst 4, 1) := by decide +kernel
theorem dX5_layGoes_4 : decode cX5_layGoes 4 = .ok (.if_icmp .ge 16, 3) := by decide +kernel
theorem dX5_layGoes_7 : decode cX5_layGoes 7 = .ok (.aload_n 0, 1) := by decide +kernel
theorem dX5_layGoes_8 : decode cX5_layGoes 8 = .ok (.getfield 68, 3) := by decide +kernel
theorem dX5_layGoes_11 : decode cX5_layGoes 11 = .ok (.iload_n 1, 1) := by decide +kernel
theorem dX5_layGoes_12 : decode cX5_layGoes 12 = .ok (.iconst 0, 1) := by decide +kernel
theorem dX5_layGoes_13 : decode cX5_layGoes 13 = .ok (.iastore, 1) := by decide +kernel
theorem dX5_layGoes_14 : decode cX5_layGoes 14 = .ok (.iinc 1 1, 3) := by decide +kernel
theorem dX5_layGoes_17 : decode cX5_layGoes 17 = .ok (.goto (-15), 3) := by decide +kernel
theorem dX5_layGoes_20 : decode cX5_layGoes 20 = .ok (.iconst 0, 1) := by decide +kernel
theorem dX5_layGoes_21 : decode cX5_layGoes 21 = .ok (.istore_n 1, 1) := by decide +kernel
theorem dX5_layGoes_22 : decode cX5_layGoes 22 = .ok (.iload_n 1, 1) := by decide +kernel
theorem dX5_layGoes_23 : decode cX5_layGoes 23 = .ok (.iconst 4, 1) := by decide +kernel
theorem dX5_layGoes_24 : decode cX5_layGoes 24 = .ok (.if_icmp .ge 86, 3) := by decide +kernel
theorem dX5_layGoes_27 : decode cX5_layGoes 27 = .ok (.iconst 0, 1) := by decide +kernel
theorem dX5_layGoes_28 : decode cX5_layGoes 28 = .ok (.istore_n 2, 1) := by decide +kernel
theorem dX5_layGoes_29 : decode cX5_layGoes 29 = .ok (.iload_n 2, 1) := by decide +kernel
theorem dX5_layGoes_30 : decode cX5_layGoes 30 = .ok (.bipush 16, 2) := by decide +kernel
theorem dX5_layGoes_32 : decode cX5_layGoes 32 = .ok (.if_icmp .ge 72, 3) := by decide +kernel
theorem dX5_layGoes_35 : decode cX5_layGoes 35 = .ok (.aload_n 0, 1) := by decide +kernel
theorem dX5_layGoes_36 : decode cX5_layGoes 36 = .ok (.getfield 65, 3) := by decide +kernel
theorem dX5_layGoes_39 : decode cX5_layGoes 39 = .ok (.iload_n 2, 1) := by decide +kernel
theorem dX5_layGoes_40 : decode cX5_layGoes 40 = .ok (.iaload, 1) := by decide +kernel
theorem dX5_layGoes_41 : decode cX5_layGoes 41 = .ok (.istore_n 3, 1) := by decide +kernel
theorem dX5_layGoes_42 : decode cX5_layGoes 42 = .ok (.aload_n 0, 1) := by decide +kernel
theorem dX5_layGoes_43 : decode cX5_layGoes 43 = .ok (.getfield 68, 3) := by decide +kernel
theorem dX5_layGoes_46 : decode cX5_layGoes 46 = .ok (.iload_n 2, 1) := by decide +kernel
theorem dX5_layGoes_47 : decode cX5_layGoes 47 = .ok (.iconst 4, 1) := by decide +kernel
theorem dX5_layGoes_48 : decode cX5_layGoes 48 = .ok (.idiv, 1) := by decide +kernel
theorem dX5_layGoes_49 : decode cX5_layGoes 49 = .ok (.iload_n 3, 1) := by decide +kernel
theorem dX5_layGoes_50 : decode cX5_layGoes 50 = .ok (.bipush (-9), 2) := by decide +kernel
theorem dX5_layGoes_52 : decode cX5_layGoes 52 = .ok (.if_icmp .eq 37, 3) := by decide +kernel
theorem dX5_layGoes_55 : decode cX5_layGoes 55 = .ok (.aload_n 0, 1) := by decide +kernel
theorem dX5_layGoes_56 : decode cX5_layGoes 56 = .ok (.getfield 68, 3) := by decide +kernel
theorem dX5_layGoes_59 : decode cX5_layGoes 59 = .ok (.iload_n 2, 1) := by decide +kernel
theorem dX5_layGoes_60 : decode cX5_layGoes 60 = .ok (.iconst 4, 1) := by decide +kernel
theorem dX5_layGoes_61 : decode cX5_layGoes 61 = .ok (.irem, 1) := by decide +kernel
theorem dX5_layGoes_62 : decode cX5_layGoes 62 = .ok (.iaload, 1) := by decide +kernel
theorem dX5_layGoes_63 : decode cX5_layGoes 63 = .ok (.iload_n 3, 1) := by decide +kernel
theorem dX5_layGoes_64 : decode cX5_layGoes 64 = .ok (.iadd, 1) := by decide +kernel
theorem dX5_layGoes_65 : decode cX5_layGoes 65 = .ok (.aload_n 0, 1) := by decide +kernel
theorem dX5_layGoes_66 : decode cX5_layGoes 66 = .ok (.getfield 68, 3) := by decide +kernel
theorem dX5_layGoes_69 : decode cX5_layGoes 69 = .ok (.iload_n 2, 1) := by decide +kernel
theorem dX5_layGoes_70 : decode cX5_layGoes 70 = .ok (.iconst 4, 1) := by decide +kernel
theorem dX5_layGoes_71 : decode cX5_layGoes 71 = .ok (.idiv, 1) := by decide +kernel
theorem dX5_layGoes_72 : decode cX5_layGoes 72 = .ok (.iaload, 1) := by decide +kernel
theorem dX5_layGoes_73 : decode cX5_layGoes 73 = .ok (.if_icmp .le 16, 3) := by decide +kernel
theorem dX5_layGoes_76 : decode cX5_layGoes 76 = .ok (.aload_n 0, 1) := by decide +kernel
theorem dX5_layGoes_77 : decode cX5_layGoes 77 = .ok (.getfield 68, 3) := by decide +kernel
theorem dX5_layGoes_80 : decode cX5_layGoes 80 = .ok (.iload_n 2, 1) := by decide +kernel
theorem dX5_layGoes_81 : decode cX5_layGoes 81 = .ok (.iconst 4, 1) := by decide +kernel
theorem dX5_layGoes_82 : decode cX5_layGoes 82 = .ok (.irem, 1) := by decide +kernel
theorem dX5_layGoes_83 : decode cX5_layGoes 83 = .ok (.iaload, 1) := by decide +kernel
theorem dX5_layGoes_84 : decode cX5_layGoes 84 = .ok (.iload_n 3, 1) := by decide +kernel
theorem dX5_layGoes_85 : decode cX5_layGoes 85 = .ok (.iadd, 1) := by decide +kernel
theorem dX5_layGoes_86 : decode cX5_layGoes 86 = .ok (.goto 11, 3) := by decide +kernel
theorem dX5_layGoes_89 : decode cX5_layGoes 89 = .ok (.aload_n 0, 1) := by decide +kernel
theorem dX5_layGoes_90 : decode cX5_layGoes 90 = .ok (.getfield 68, 3) := by decide +kernel
theorem dX5_layGoes_93 : decode cX5_layGoes 93 = .ok (.iload_n 2, 1) := by decide +kernel
theorem dX5_layGoes_94 : decode cX5_layGoes 94 = .ok (.iconst 4, 1) := by decide +kernel
theorem dX5_layGoes_95 : decode cX5_layGoes 95 = .ok (.idiv, 1) := by decide +kernel
theorem dX5_layGoes_96 : decode cX5_layGoes 96 = .ok (.iaload, 1) := by decide +kernel
theorem dX5_layGoes_97 : decode cX5_layGoes 97 = .ok (.iastore, 1) := by decide +kernel
theorem dX5_layGoes_98 : decode cX5_layGoes 98 = .ok (.iinc 2 1, 3) := by decide +kernel
theorem dX5_layGoes_101 : decode cX5_layGoes 101 = .ok (.goto (-72), 3) := by decide +kernel
theorem dX5_layGoes_104 : decode cX5_layGoes 104 = .ok (.iinc 1 1, 3) := by decide +kernel
theorem dX5_layGoes_107 : decode cX5_layGoes 107 = .ok (.goto (-85), 3) := by decide +kernel
theorem dX5_layGoes_110 : decode cX5_layGoes 110 = .ok (.iconst 0, 1) := by decide +kernel
theorem dX5_layGoes_111 : decode cX5_layGoes 111 = .ok (.istore_n 1, 1) := by decide +kernel
theorem dX5_layGoes_112 : decode cX5_layGoes 112 = .ok (.iload_n 1, 1) := by decide +kernel
theorem dX5_layGoes_113 : decode cX5_layGoes 113 = .ok (.bipush 8, 2) := by decide +kernel
theorem dX5_layGoes_115 : decode cX5_layGoes 115 = .ok (.if_icmp .ge 117, 3) := by decide +kernel
theorem dX5_layGoes_118 : decode cX5_layGoes 118 = .ok (.iconst 0, 1) := by decide +kernel
theorem dX5_layGoes_119 : decode cX5_layGoes 119 = .ok (.istore_n 2, 1) := by decide +kernel
theorem dX5_layGoes_120 : decode cX5_layGoes 120 = .ok (.iload_n 2, 1) := by decide +kernel
theorem dX5_layGoes_121 : decode cX5_layGoes 121 = .ok (.bipush 16, 2) := by decide +kernel
theorem dX5_layGoes_123 : decode cX5_layGoes 123 = .ok (.if_icmp .ge 103, 3) := by decide +kernel
theorem dX5_layGoes_126 : decode cX5_layGoes 126 = .ok (.aload_n 0, 1) := by decide +kernel
theorem dX5_layGoes_127 : decode cX5_layGoes 127 = .ok (.getfield 65, 3) := by decide +kernel
theorem dX5_layGoes_130 : decode cX5_layGoes 130 = .ok (.iload_n 2, 1) := by decide +kernel
theorem dX5_layGoes_131 : decode cX5_layGoes 131 = .ok (.iaload, 1) := by decide +kernel
theorem dX5_layGoes_132 : decode cX5_layGoes 132 = .ok (.bipush (-9), 2) := by decide +kernel
theorem dX5_layGoes_134 : decode cX5_layGoes 134 = .ok (.if_icmp .eq 59, 3) := by decide +kernel
theorem dX5_layGoes_137 : decode cX5_layGoes 137 = .ok (.aload_n 0, 1) := by decide +kernel
theorem dX5_layGoes_138 : decode cX5_layGoes 138 = .ok (.getfield 68, 3) := by decide +kernel
theorem dX5_layGoes_141 : decode cX5_layGoes 141 = .ok (.iload_n 2, 1) := by decide +kernel
theorem dX5_layGoes_142 : decode cX5_layGoes 142 = .ok (.iconst 4, 1) := by decide +kernel
theorem dX5_layGoes_143 : decode cX5_layGoes 143 = .ok (.idiv, 1) := by decide +kernel
theorem dX5_layGoes_144 : decode cX5_layGoes 144 = .ok (.iaload, 1) := by decide +kernel
theorem dX5_layGoes_145 : decode cX5_layGoes 145 = .ok (.bipush (-9), 2) := by decide +kernel
theorem dX5_layGoes_147 : decode cX5_layGoes 147 = .ok (.if_icmp .eq 46, 3) := by decide +kernel
theorem dX5_layGoes_150 : decode cX5_layGoes 150 = .ok (.aload_n 0, 1) := by decide +kernel
theorem dX5_layGoes_151 : decode cX5_layGoes 151 = .ok (.getfield 68, 3) := by decide +kernel
theorem dX5_layGoes_154 : decode cX5_layGoes 154 = .ok (.iload_n 2, 1) := by decide +kernel
theorem dX5_layGoes_155 : decode cX5_layGoes 155 = .ok (.iconst 4, 1) := by decide +kernel
theorem dX5_layGoes_156 : decode cX5_layGoes 156 = .ok (.irem, 1) := by decide +kernel
theorem dX5_layGoes_157 : decode cX5_layGoes 157 = .ok (.iaload, 1) := by decide +kernel
theorem dX5_layGoes_158 : decode cX5_layGoes 158 = .ok (.bipush (-9), 2) := by decide +kernel
theorem dX5_layGoes_160 : decode cX5_layGoes 160 = .ok (.if_icmp .eq 29, 3) := by decide +kernel
theorem dX5_layGoes_163 : decode cX5_layGoes 163 = .ok (.aload_n 0, 1) := by decide +kernel
theorem dX5_layGoes_164 : decode cX5_layGoes 164 = .ok (.getfield 68, 3) := by decide +kernel
theorem dX5_layGoes_167 : decode cX5_layGoes 167 = .ok (.iload_n 2, 1) := by decide +kernel
theorem dX5_layGoes_168 : decode cX5_layGoes 168 = .ok (.iconst 4, 1) := by decide +kernel
theorem dX5_layGoes_169 : decode cX5_layGoes 169 = .ok (.irem, 1) := by decide +kernel
theorem dX5_layGoes_170 : decode cX5_layGoes 170 = .ok (.iaload, 1) := by decide +kernel
theorem dX5_layGoes_171 : decode cX5_layGoes 171 = .ok (.aload_n 0, 1) := by decide +kernel
theorem dX5_layGoes_172 : decode cX5_layGoes 172 = .ok (.getfield 65, 3) := by decide +kernel
theorem dX5_layGoes_175 : decode cX5_layGoes 175 = .ok (.iload_n 2, 1) := by decide +kernel
theorem dX5_layGoes_176 : decode cX5_layGoes 176 = .ok (.iaload, 1) := by decide +kernel
theorem dX5_layGoes_177 : decode cX5_layGoes 177 = .ok (.iadd, 1) := by decide +kernel
theorem dX5_layGoes_178 : decode cX5_layGoes 178 = .ok (.aload_n 0, 1) := by decide +kernel
theorem dX5_layGoes_179 : decode cX5_layGoes 179 = .ok (.getfield 68, 3) := by decide +kernel
theorem dX5_layGoes_182 : decode cX5_layGoes 182 = .ok (.iload_n 2, 1) := by decide +kernel
theorem dX5_layGoes_183 : decode cX5_layGoes 183 = .ok (.iconst 4, 1) := by decide +kernel
theorem dX5_layGoes_184 : decode cX5_layGoes 184 = .ok (.idiv, 1) := by decide +kernel
theorem dX5_layGoes_185 : decode cX5_layGoes 185 = .ok (.iaload, 1) := by decide +kernel
theorem dX5_layGoes_186 : decode cX5_layGoes 186 = .ok (.if_icmp .le 7, 3) := by decide +kernel
theorem dX5_layGoes_189 : decode cX5_layGoes 189 = .ok (.iconst 1, 1) := by decide +kernel
theorem dX5_layGoes_190 : decode cX5_layGoes 190 = .ok (.goto 4, 3) := by decide +kernel
theorem dX5_layGoes_193 : decode cX5_layGoes 193 = .ok (.iconst 0, 1) := by decide +kernel
theorem dX5_layGoes_194 : decode cX5_layGoes 194 = .ok (.istore_n 3, 1) := by decide +kernel
theorem dX5_layGoes_195 : decode cX5_layGoes 195 = .ok (.aload_n 0, 1) := by decide +kernel
theorem dX5_layGoes_196 : decode cX5_layGoes 196 = .ok (.getfield 68, 3) := by decide +kernel
theorem dX5_layGoes_199 : decode cX5_layGoes 199 = .ok (.iload_n 2, 1) := by decide +kernel
theorem dX5_layGoes_200 : decode cX5_layGoes 200 = .ok (.iconst 4, 1) := by decide +kernel
theorem dX5_layGoes_201 : decode cX5_layGoes 201 = .ok (.idiv, 1) := by decide +kernel
theorem dX5_layGoes_202 : decode cX5_layGoes 202 = .ok (.iload_n 3, 1) := by decide +kernel
theorem dX5_layGoes_203 : decode cX5_layGoes 203 = .ok (.ifCond .eq 8, 3) := by decide +kernel
theorem dX5_layGoes_206 : decode cX5_layGoes 206 = .ok (.bipush (-9), 2) := by decide +kernel
theorem dX5_layGoes_208 : decode cX5_layGoes 208 = .ok (.goto 11, 3) := by decide +kernel
theorem dX5_layGoes_211 : decode cX5_layGoes 211 = .ok (.aload_n 0, 1) := by decide +kernel
theorem dX5_layGoes_212 : decode cX5_layGoes 212 = .ok (.getfield 68, 3) := by decide +kernel
theorem dX5_layGoes_215 : decode cX5_layGoes 215 = .ok (.iload_n 2, 1) := by decide +kernel
theorem dX5_layGoes_216 : decode cX5_layGoes 216 = .ok (.iconst 4, 1) := by decide +kernel
theorem dX5_layGoes_217 : decode cX5_layGoes 217 = .ok (.idiv, 1) := by decide +kernel
theorem dX5_layGoes_218 : decode cX5_layGoes 218 = .ok (.iaload, 1) := by decide +kernel
theorem dX5_layGoes_219 : decode cX5_layGoes 219 = .ok (.iastore, 1) := by decide +kernel
theorem dX5_layGoes_220 : decode cX5_layGoes 220 = .ok (.iinc 2 1, 3) := by decide +kernel
theorem dX5_layGoes_223 : decode cX5_layGoes 223 = .ok (.goto (-103), 3) := by decide +kernel
theorem dX5_layGoes_226 : decode cX5_layGoes 226 = .ok (.iinc 1 1, 3) := by decide +kernel
theorem dX5_layGoes_229 : decode cX5_layGoes 229 = .ok (.goto (-117), 3) := by decide +kernel
theorem dX5_layGoes_232 : decode cX5_layGoes 232 = .ok (.return_, 1) := by decide +kernel
set_option maxRecDepth 20000 in
theorem ggX5_go_X5_in : GoodIn wsX5_go wsX5_in := goodIn_r _ [5] (by decide +kernel) (by decide +kernel)
set_option maxRecDepth 20000 in
theorem gX5_go_X5_in : GoodIn wsX5_go (va_wsS RX5 78 yX5_in wsX5_in) := goodIn_app (goodIn_of _ (by decide +kernel)) ggX5_go_X5_in
set_option maxRecDepth 20000 in
theorem ggX5_go_X5_layGoes : GoodIn wsX5_go wsX5_layGoes := goodIn_r _ [9, 1, 10, 11, 12, 13, 14, 15, 16, 17, 18, 19, 20, 21, 22, 23, 24, 25, 26, 27, 28, 29, 30, 31, 32, 33, 34] (by decide +kernel) (by decide +kernel)
set_option maxRecDepth 20000 in
theorem gX5_go_X5_layGoes : GoodIn wsX5_go (wsV RX5 152 RX5 yX5_layGoes wsX5_layGoes) := goodIn_app (goodIn_of _ (by decide +kernel)) ggX5_go_X5_layGoes
theorem dX5_go_0 : decode cX5_go 0 = .ok (.iload_n 1, 1) := by decide +kernel
theorem dX5_go_1 : decode cX5_go 1 = .ok (.iconst 0, 1) := by decide +kernel
theorem dX5_go_2 : decode cX5_go 2 = .ok (.iconst 3, 1) := by decide +kernel
theorem dX5_go_3 : decode cX5_go 3 = .ok (.invokestatic 78, 3) := by decide +kernel
theorem dX5_go_6 : decode cX5_go 6 = .ok (.ifCond .ne 5, 3) := by decide +kernel
theorem dX5_go_9 : decode cX5_go 9 = .ok (.iconst (-1), 1) := by decide +kernel
theorem dX5_go_10 : decode cX5_go 10 = .ok (.ireturn, 1) := by decide +kernel
theorem dX5_go_11 : decode cX5_go 11 = .ok (.aload_n 0, 1) := by decide +kernel
theorem dX5_go_12 : decode cX5_go 12 = .ok (.invokevirtual 152, 3) := by decide +kernel
theorem dX5_go_15 : decode cX5_go 15 = .ok (.aload_n 0, 1) := by decide +kernel
theorem dX5_go_16 : decode cX5_go 16 = .ok (.getfield 68, 3) := by decide +kernel
theorem dX5_go_19 : decode cX5_go 19 = .ok (.iload_n 1, 1) := by decide +kernel
theorem dX5_go_20 : decode cX5_go 20 = .ok (.iaload, 1) := by decide +kernel
theorem dX5_go_21 : decode cX5_go 21 = .ok (.ireturn, 1) := by decide +kernel
set_option maxRecDepth 20000 in
theorem ggX5_gone_X5_layGoes : GoodIn wsX5_gone wsX5_layGoes := goodIn_r _ [6, 1, 7, 8, 9, 10, 11, 12, 13, 14, 15, 16, 17, 18, 19, 20, 21, 22, 23, 24, 25, 26, 27, 28, 29, 30, 31] (by decide +kernel) (by decide +kernel)
set_option maxRecDepth 20000 in
theorem gX5_gone_X5_layGoes : GoodIn wsX5_gone (wsV RX5 152 RX5 yX5_layGoes wsX5_layGoes) := goodIn_app (goodIn_of _ (by decide +kernel)) ggX5_gone_X5_layGoes
theorem dX5_gone_0 : decode cX5_gone 0 = .ok (.iload_n 1, 1) := by decide +kernel
theorem dX5_gone_1 : decode cX5_gone 1 = .ok (.ifCond .ge 6, 3) := by decide +kernel
theorem dX5_gone_4 : decode cX5_gone 4 = .ok (.bipush (-2), 2) := by decide +kernel
theorem dX5_gone_6 : decode cX5_gone 6 = .ok (.ireturn, 1) := by decide +kernel
theorem dX5_gone_7 : decode cX5_gone 7 = .ok (.aload_n 0, 1) := by decide +kernel
theorem dX5_gone_8 : decode cX5_gone 8 = .ok (.invokevirtual 152, 3) := by decide +kernel
theorem dX5_gone_11 : decode cX5_gone 11 = .ok (.iconst 0, 1) := by decide +kernel
theorem dX5_gone_12 : decode cX5_gone 12 = .ok (.istore_n 2, 1) := by decide +kernel
theorem dX5_gone_13 : decode cX5_gone 13 = .ok (.iconst 0, 1) := by decide +kernel
theorem dX5_gone_14 : decode cX5_gone 14 = .ok (.istore_n 3, 1) := by decide +kernel
theorem dX5_gone_15 : decode cX5_gone 15 = .ok (.iload_n 3, 1) := by decide +kernel
theorem dX5_gone_16 : decode cX5_gone 16 = .ok (.iconst 4, 1) := by decide +kernel
theorem dX5_gone_17 : decode cX5_gone 17 = .ok (.if_icmp .ge 38, 3) := by decide +kernel
theorem dX5_gone_20 : decode cX5_gone 20 = .ok (.iload_n 2, 1) := by decide +kernel
theorem dX5_gone_21 : decode cX5_gone 21 = .ok (.aload_n 0, 1) := by decide +kernel
theorem dX5_gone_22 : decode cX5_gone 22 = .ok (.getfield 68, 3) := by decide +kernel
theorem dX5_gone_25 : decode cX5_gone 25 = .ok (.iload_n 3, 1) := by decide +kernel
theorem dX5_gone_26 : decode cX5_gone 26 = .ok (.iaload, 1) := by decide +kernel
theorem dX5_gone_27 : decode cX5_gone 27 = .ok (.bipush (-9), 2) := by decide +kernel
theorem dX5_gone_29 : decode cX5_gone 29 = .ok (.if_icmp .eq 17, 3) := by decide +kernel
theorem dX5_gone_32 : decode cX5_gone 32 = .ok (.aload_n 0, 1) := by decide +kernel
theorem dX5_gone_33 : decode cX5_gone 33 = .ok (.getfield 68, 3) := by decide +kernel
theorem dX5_gone_36 : decode cX5_gone 36 = .ok (.iload_n 3, 1) := by decide +kernel
theorem dX5_gone_37 : decode cX5_gone 37 = .ok (.iaload, 1) := by decide +kernel
theorem dX5_gone_38 : decode cX5_gone 38 = .ok (.iload_n 1, 1) := by decide +kernel
theorem dX5_gone_39 : decode cX5_gone 39 = .ok (.if_icmp .gt 7, 3) := by decide +kernel
theorem dX5_gone_42 : decode cX5_gone 42 = .ok (.iconst 1, 1) := by decide +kernel
theorem dX5_gone_43 : decode cX5_gone 43 = .ok (.goto 4, 3) := by decide +kernel
theorem dX5_gone_46 : decode cX5_gone 46 = .ok (.iconst 0, 1) := by decide +kernel
theorem dX5_gone_47 : decode cX5_gone 47 = .ok (.iadd, 1) := by decide +kernel
theorem dX5_gone_48 : decode cX5_gone 48 = .ok (.istore_n 2, 1) := by decide +kernel
theorem dX5_gone_49 : decode cX5_gone 49 = .ok (.iinc 3 1, 3) := by decide +kernel
theorem dX5_gone_52 : decode cX5_gone 52 = .ok (.goto (-37), 3) := by decide +kernel
theorem dX5_gone_55 : decode cX5_gone 55 = .ok (.iload_n 2, 1) := by decide +kernel
theorem dX5_gone_56 : decode cX5_gone 56 = .ok (.ireturn, 1) := by decide +kernel
theorem dX5_count_0 : decode cX5_count 0 = .ok (.iconst 0, 1) := by decide +kernel
theorem dX5_count_1 : decode cX5_count 1 = .ok (.istore_n 2, 1) := by decide +kernel
theorem dX5_count_2 : decode cX5_count 2 = .ok (.iload_n 1, 1) := by decide +kernel
theorem dX5_count_3 : decode cX5_count 3 = .ok (.tableswitch 124 0 5 #[37, 42, 47, 52, 57, 89], 37) := by decide +kernel
theorem dX5_count_40 : decode cX5_count 40 = .ok (.aload_n 0, 1) := by decide +kernel
theorem dX5_count_41 : decode cX5_count 41 = .ok (.getfield 74, 3) := by decide +kernel
theorem dX5_count_44 : decode cX5_count 44 = .ok (.ireturn, 1) := by decide +kernel
theorem dX5_count_45 : decode cX5_count 45 = .ok (.aload_n 0, 1) := by decide +kernel
theorem dX5_count_46 : decode cX5_count 46 = .ok (.getfield 85, 3) := by decide +kernel
theorem dX5_count_49 : decode cX5_count 49 = .ok (.ireturn, 1) := by decide +kernel
theorem dX5_count_50 : decode cX5_count 50 = .ok (.aload_n 0, 1) := by decide +kernel
theorem dX5_count_51 : decode cX5_count 51 = .ok (.getfield 88, 3) := by decide +kernel
theorem dX5_count_54 : decode cX5_count 54 = .ok (.ireturn, 1) := by decide +kernel
theorem dX5_count_55 : decode cX5_count 55 = .ok (.aload_n 0, 1) := by decide +kernel
theorem dX5_count_56 : decode cX5_count 56 = .ok (.getfield 82, 3) := by decide +kernel
theorem dX5_count_59 : decode cX5_count 59 = .ok (.ireturn, 1) := by decide +kernel
theorem dX5_count_60 : decode cX5_count 60 = .ok (.iconst 0, 1) := by decide +kernel
theorem dX5_count_61 : decode cX5_count 61 = .ok (.istore_n 3, 1) := by decide +kernel
theorem dX5_count_62 : decode cX5_count 62 = .ok (.iload_n 3, 1) := by decide +kernel
theorem dX5_count_63 : decode cX5_count 63 = .ok (.iconst 4, 1) := by decide +kernel
theorem dX5_count_64 : decode cX5_count 64 = .ok (.if_icmp .ge 26, 3) := by decide +kernel
theorem dX5_count_67 : decode cX5_count 67 = .ok (.iload_n 2, 1) := by decide +kernel
theorem dX5_count_68 : decode cX5_count 68 = .ok (.aload_n 0, 1) := by decide +kernel
theorem dX5_count_69 : decode cX5_count 69 = .ok (.getfield 40, 3) := by decide +kernel
theorem dX5_count_72 : decode cX5_count 72 = .ok (.iload_n 3, 1) := by decide +kernel
theorem dX5_count_73 : decode cX5_count 73 = .ok (.baload, 1) := by decide +kernel
theorem dX5_count_74 : decode cX5_count 74 = .ok (.ifCond .eq 7, 3) := by decide +kernel
theorem dX5_count_77 : decode cX5_count 77 = .ok (.iconst 1, 1) := by decide +kernel
theorem dX5_count_78 : decode cX5_count 78 = .ok (.goto 4, 3) := by decide +kernel
theorem dX5_count_81 : decode cX5_count 81 = .ok (.iconst 0, 1) := by decide +kernel
theorem dX5_count_82 : decode cX5_count 82 = .ok (.iadd, 1) := by decide +kernel
theorem dX5_count_83 : decode cX5_count 83 = .ok (.istore_n 2, 1) := by decide +kernel
theorem dX5_count_84 : decode cX5_count 84 = .ok (.iinc 3 1, 3) := by decide +kernel
theorem dX5_count_87 : decode cX5_count 87 = .ok (.goto (-25), 3) := by decide +kernel
theorem dX5_count_90 : decode cX5_count 90 = .ok (.iload_n 2, 1) := by decide +kernel
theorem dX5_count_91 : decode cX5_count 91 = .ok (.ireturn, 1) := by decide +kernel
theorem dX5_count_92 : decode cX5_count 92 = .ok (.iconst 0, 1) := by decide +kernel
theorem dX5_count_93 : decode cX5_count 93 = .ok (.istore_n 3, 1) := by decide +kernel
theorem dX5_count_94 : decode cX5_count 94 = .ok (.iload_n 3, 1) := by decide +kernel
theorem dX5_count_95 : decode cX5_count 95 = .ok (.bipush 16, 2) := by decide +kernel
theorem dX5_count_97 : decode cX5_count 97 = .ok (.if_icmp .ge 28, 3) := by decide +kernel
theorem dX5_count_100 : decode cX5_count 100 = .ok (.iload_n 2, 1) := by decide +kernel
theorem dX5_count_101 : decode cX5_count 101 = .ok (.aload_n 0, 1) := by decide +kernel
theorem dX5_count_102 : decode cX5_count 102 = .ok (.getfield 65, 3) := by decide +kernel
theorem dX5_count_105 : decode cX5_count 105 = .ok (.iload_n 3, 1) := by decide +kernel
theorem dX5_count_106 : decode cX5_count 106 = .ok (.iaload, 1) := by decide +kernel
theorem dX5_count_107 : decode cX5_count 107 = .ok (.bipush (-9), 2) := by decide +kernel
theorem dX5_count_109 : decode cX5_count 109 = .ok (.if_icmp .eq 7, 3) := by decide +kernel
theorem dX5_count_112 : decode cX5_count 112 = .ok (.iconst 1, 1) := by decide +kernel
theorem dX5_count_113 : decode cX5_count 113 = .ok (.goto 4, 3) := by decide +kernel
theorem dX5_count_116 : decode cX5_count 116 = .ok (.iconst 0, 1) := by decide +kernel
theorem dX5_count_117 : decode cX5_count 117 = .ok (.iadd, 1) := by decide +kernel
theorem dX5_count_118 : decode cX5_count 118 = .ok (.istore_n 2, 1) := by decide +kernel
theorem dX5_count_119 : decode cX5_count 119 = .ok (.iinc 3 1, 3) := by decide +kernel
theorem dX5_count_122 : decode cX5_count 122 = .ok (.goto (-28), 3) := by decide +kernel
theorem dX5_count_125 : decode cX5_count 125 = .ok (.iload_n 2, 1) := by decide +kernel
theorem dX5_count_126 : decode cX5_count 126 = .ok (.ireturn, 1) := by decide +kernel
theorem dX5_count_127 : decode cX5_count 127 = .ok (.bipush (-2), 2) := by decide +kernel
theorem dX5_count_129 : decode cX5_count 129 = .ok (.ireturn, 1) := by decide +kernel
