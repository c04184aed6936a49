set_option maxRecDepth 20000 in
theorem ggX11_init_X7_init : GoodIn wsX11_init wsX7_init := goodIn_r _ [43, 44, 2, 3] (by decide +kernel) (by decide +kernel)
set_option maxRecDepth 20000 in
theorem gX11_init_X7_init_n9 : GoodIn wsX11_init (wsX7_init) := ggX11_init_X7_init
set_option maxRecDepth 20000 in
theorem ggX11_init_X3_init : GoodIn wsX11_init wsX3_init := goodIn_r _ [46, 42, 6, 43, 44, 2, 3] (by decide +kernel) (by decide +kernel)
set_option maxRecDepth 20000 in
theorem gX11_init_X3_init_n12 : GoodIn wsX11_init (wsX3_init) := ggX11_init_X3_init
set_option maxRecDepth 20000 in
theorem ggX11_init_X5_init : GoodIn wsX11_init wsX5_init := goodIn_r _ [48, 42, 6, 43, 44, 2, 3] (by decide +kernel) (by decide +kernel)
set_option maxRecDepth 20000 in
theorem gX11_init_X5_init_n15 : GoodIn wsX11_init (wsX5_init) := ggX11_init_X5_init
set_option maxRecDepth 20000 in
theorem ggX11_init_X10_init : GoodIn wsX11_init wsX10_init := goodIn_r _ [50, 42, 6, 43, 44, 2, 3] (by decide +kernel) (by decide +kernel)
set_option maxRecDepth 20000 in
theorem gX11_init_X10_init_n18 : GoodIn wsX11_init (wsX10_init) := ggX11_init_X10_init
set_option maxRecDepth 20000 in
theorem ggX11_init_X1_init : GoodIn wsX11_init wsX1_init := goodIn_r _ [52, 45, 9, 46, 42, 6, 43, 44, 2, 3] (by decide +kernel) (by decide +kernel)
set_option maxRecDepth 20000 in
theorem gX11_init_X1_init_n21 : GoodIn wsX11_init (wsX1_init) := ggX11_init_X1_init
set_option maxRecDepth 20000 in
theorem ggX11_init_X8_init : GoodIn wsX11_init wsX8_init := goodIn_r _ [54, 49, 15, 50, 42, 6, 43, 44, 2, 3] (by decide +kernel) (by decide +kernel)
set_option maxRecDepth 20000 in
theorem gX11_init_X8_init_n24 : GoodIn wsX11_init (wsX8_init) := ggX11_init_X8_init
set_option maxRecDepth 20000 in
theorem ggX11_init_X0_init : GoodIn wsX11_init wsX0_init := goodIn_r _ [56, 45, 9, 46, 42, 6, 43, 44, 2, 3] (by decide +kernel) (by decide +kernel)
set_option maxRecDepth 20000 in
theorem gX11_init_X0_init_n27 : GoodIn wsX11_init (wsX0_init) := ggX11_init_X0_init
set_option maxRecDepth 20000 in
theorem ggX11_init_X4_init : GoodIn wsX11_init wsX4_init := goodIn_r _ [58, 49, 15, 50, 42, 6, 43, 44, 2, 3] (by decide +kernel) (by decide +kernel)
set_option maxRecDepth 20000 in
theorem gX11_init_X4_init_n30 : GoodIn wsX11_init (wsX4_init) := ggX11_init_X4_init
set_option maxRecDepth 20000 in
theorem ggX11_init_X6_init : GoodIn wsX11_init wsX6_init := goodIn_r _ [61, 62, 2, 3, 63, 64, 65, 66, 67, 68, 69, 70, 39, 71, 72, 73, 74, 75, 76, 90, 91, 92, 99, 100, 101, 102, 103, 104, 105] (by decide +kernel) (by decide +kernel)
set_option maxRecDepth 20000 in
theorem gX11_init_X6_init : GoodIn wsX11_init (wsX6_init) := ggX11_init_X6_init
set_option maxRecDepth 20000 in
theorem ggX11_init_X9_init : GoodIn wsX11_init wsX9_init := goodIn_r _ [78, 79, 2, 3, 39, 80, 93, 94, 95, 96, 97, 98] (by decide +kernel) (by decide +kernel)
set_option maxRecDepth 20000 in
theorem gX11_init_X9_init_n58 : GoodIn wsX11_init (wsX9_init) := ggX11_init_X9_init
theorem dX11_init_0 : decode cX11_init 0 = .ok (.aload_n 0, 1) := by decide +kernel
theorem dX11_init_1 : decode cX11_init 1 = .ok (.invokespecial 1, 3) := by decide +kernel
theorem dX11_init_4 : decode cX11_init 4 = .ok (.aload_n 0, 1) := by decide +kernel
theorem dX11_init_5 : decode cX11_init 5 = .ok (.bipush 8, 2) := by decide +kernel
theorem dX11_init_7 : decode cX11_init 7 = .ok (.anewarray 7, 3) := by decide +kernel
theorem dX11_init_10 : decode cX11_init 10 = .ok (.dup, 1) := by decide +kernel
theorem dX11_init_11 : decode cX11_init 11 = .ok (.iconst 0, 1) := by decide +kernel
theorem dX11_init_12 : decode cX11_init 12 = .ok (.new 7, 3) := by decide +kernel
theorem dX11_init_15 : decode cX11_init 15 = .ok (.dup, 1) := by decide +kernel
theorem dX11_init_16 : decode cX11_init 16 = .ok (.invokespecial 9, 3) := by decide +kernel
theorem dX11_init_19 : decode cX11_init 19 = .ok (.aastore, 1) := by decide +kernel
theorem dX11_init_20 : decode cX11_init 20 = .ok (.dup, 1) := by decide +kernel
theorem dX11_init_21 : decode cX11_init 21 = .ok (.iconst 1, 1) := by decide +kernel
theorem dX11_init_22 : decode cX11_init 22 = .ok (.new 10, 3) := by decide +kernel
theorem dX11_init_25 : decode cX11_init 25 = .ok (.dup, 1) := by decide +kernel
theorem dX11_init_26 : decode cX11_init 26 = .ok (.invokespecial 12, 3) := by decide +kernel
theorem dX11_init_29 : decode cX11_init 29 = .ok (.aastore, 1) := by decide +kernel
theorem dX11_init_30 : decode cX11_init 30 = .ok (.dup, 1) := by decide +kernel
theorem dX11_init_31 : decode cX11_init 31 = .ok (.iconst 2, 1) := by decide +kernel
theorem dX11_init_32 : decode cX11_init 32 = .ok (.new 13, 3) := by decide +kernel
theorem dX11_init_35 : decode cX11_init 35 = .ok (.dup, 1) := by decide +kernel
theorem dX11_init_36 : decode cX11_init 36 = .ok (.invokespecial 15, 3) := by decide +kernel
theorem dX11_init_39 : decode cX11_init 39 = .ok (.aastore, 1) := by decide +kernel
theorem dX11_init_40 : decode cX11_init 40 = .ok (.dup, 1) := by decide +kernel
theorem dX11_init_41 : decode cX11_init 41 = .ok (.iconst 3, 1) := by decide +kernel
theorem dX11_init_42 : decode cX11_init 42 = .ok (.new 16, 3) := by decide +kernel
theorem dX11_init_45 : decode cX11_init 45 = .ok (.dup, 1) := by decide +kernel
theorem dX11_init_46 : decode cX11_init 46 = .ok (.invokespecial 18, 3) := by decide +kernel
theorem dX11_init_49 : decode cX11_init 49 = .ok (.aastore, 1) := by decide +kernel
theorem dX11_init_50 : decode cX11_init 50 = .ok (.dup, 1) := by decide +kernel
theorem dX11_init_51 : decode cX11_init 51 = .ok (.iconst 4, 1) := by decide +kernel
theorem dX11_init_52 : decode cX11_init 52 = .ok (.new 19, 3) := by decide +kernel
theorem dX11_init_55 : decode cX11_init 55 = .ok (.dup, 1) := by decide +kernel
theorem dX11_init_56 : decode cX11_init 56 = .ok (.invokespecial 21, 3) := by decide +kernel
theorem dX11_init_59 : decode cX11_init 59 = .ok (.aastore, 1) := by decide +kernel
theorem dX11_init_60 : decode cX11_init 60 = .ok (.dup, 1) := by decide +kernel
theorem dX11_init_61 : decode cX11_init 61 = .ok (.iconst 5, 1) := by decide +kernel
theorem dX11_init_62 : decode cX11_init 62 = .ok (.new 22, 3) := by decide +kernel
theorem dX11_init_65 : decode cX11_init 65 = .ok (.dup, 1) := by decide +kernel
theorem dX11_init_66 : decode cX11_init 66 = .ok (.invokespecial 24, 3) := by decide +kernel
theorem dX11_init_69 : decode cX11_init 69 = .ok (.aastore, 1) := by decide +kernel
theorem dX11_init_70 : decode cX11_init 70 = .ok (.dup, 1) := by decide +kernel
theorem dX11_init_71 : decode cX11_init 71 = .ok (.bipush 6, 2) := by decide +kernel
theorem dX11_init_73 : decode cX11_init 73 = .ok (.new 25, 3) := by decide +kernel
theorem dX11_init_76 : decode cX11_init 76 = .ok (.dup, 1) := by decide +kernel
theorem dX11_init_77 : decode cX11_init 77 = .ok (.invokespecial 27, 3) := by decide +kernel
theorem dX11_init_80 : decode cX11_init 80 = .ok (.aastore, 1) := by decide +kernel
theorem dX11_init_81 : decode cX11_init 81 = .ok (.dup, 1) := by decide +kernel
theorem dX11_init_82 : decode cX11_init 82 = .ok (.bipush 7, 2) := by decide +kernel
theorem dX11_init_84 : decode cX11_init 84 = .ok (.new 28, 3) := by decide +kernel
theorem dX11_init_87 : decode cX11_init 87 = .ok (.dup, 1) := by decide +kernel
theorem dX11_init_88 : decode cX11_init 88 = .ok (.invokespecial 30, 3) := by decide +kernel
theorem dX11_init_91 : decode cX11_init 91 = .ok (.aastore, 1) := by decide +kernel
theorem dX11_init_92 : decode cX11_init 92 = .ok (.putfield 31, 3) := by decide +kernel
theorem dX11_init_95 : decode cX11_init 95 = .ok (.aload_n 0, 1) := by decide +kernel
theorem dX11_init_96 : decode cX11_init 96 = .ok (.new 37, 3) := by decide +kernel
theorem dX11_init_99 : decode cX11_init 99 = .ok (.dup, 1) := by decide +kernel
theorem dX11_init_100 : decode cX11_init 100 = .ok (.aload_n 0, 1) := by decide +kernel
theorem dX11_init_101 : decode cX11_init 101 = .ok (.getfield 31, 3) := by decide +kernel
theorem dX11_init_104 : decode cX11_init 104 = .ok (.invokespecial 39, 3) := by decide +kernel
theorem dX11_init_107 : decode cX11_init 107 = .ok (.putfield 42, 3) := by decide +kernel
theorem dX11_init_110 : decode cX11_init 110 = .ok (.aload_n 0, 1) := by decide +kernel
theorem dX11_init_111 : decode cX11_init 111 = .ok (.new 37, 3) := by decide +kernel
theorem dX11_init_114 : decode cX11_init 114 = .ok (.dup, 1) := by decide +kernel
theorem dX11_init_115 : decode cX11_init 115 = .ok (.aload_n 0, 1) := by decide +kernel
theorem dX11_init_116 : decode cX11_init 116 = .ok (.getfield 31, 3) := by decide +kernel
theorem dX11_init_119 : decode cX11_init 119 = .ok (.invokespecial 39, 3) := by decide +kernel
theorem dX11_init_122 : decode cX11_init 122 = .ok (.putfield 46, 3) := by decide +kernel
theorem dX11_init_125 : decode cX11_init 125 = .ok (.aload_n 0, 1) := by decide +kernel
theorem dX11_init_126 : decode cX11_init 126 = .ok (.new 37, 3) := by decide +kernel
theorem dX11_init_129 : decode cX11_init 129 = .ok (.dup, 1) := by decide +kernel
theorem dX11_init_130 : decode cX11_init 130 = .ok (.aload_n 0, 1) := by decide +kernel
theorem dX11_init_131 : decode cX11_init 131 = .ok (.getfield 31, 3) := by decide +kernel
theorem dX11_init_134 : decode cX11_init 134 = .ok (.invokespecial 39, 3) := by decide +kernel
theorem dX11_init_137 : decode cX11_init 137 = .ok (.putfield 49, 3) := by decide +kernel
theorem dX11_init_140 : decode cX11_init 140 = .ok (.aload_n 0, 1) := by decide +kernel
theorem dX11_init_141 : decode cX11_init 141 = .ok (.bipush 8, 2) := by decide +kernel
theorem dX11_init_143 : decode cX11_init 143 = .ok (.anewarray 52, 3) := by decide +kernel
theorem dX11_init_146 : decode cX11_init 146 = .ok (.putfield 54, 3) := by decide +kernel
theorem dX11_init_149 : decode cX11_init 149 = .ok (.iconst 0, 1) := by decide +kernel
theorem dX11_init_150 : decode cX11_init 150 = .ok (.istore_n 1, 1) := by decide +kernel
theorem dX11_init_151 : decode cX11_init 151 = .ok (.iload_n 1, 1) := by decide +kernel
theorem dX11_init_152 : decode cX11_init 152 = .ok (.bipush 8, 2) := by decide +kernel
theorem dX11_init_154 : decode cX11_init 154 = .ok (.if_icmp .ge 22, 3) := by decide +kernel
theorem dX11_init_157 : decode cX11_init 157 = .ok (.aload_n 0, 1) := by decide +kernel
theorem dX11_init_158 : decode cX11_init 158 = .ok (.getfield 54, 3) := by decide +kernel
theorem dX11_init_161 : decode cX11_init 161 = .ok (.iload_n 1, 1) := by decide +kernel
theorem dX11_init_162 : decode cX11_init 162 = .ok (.new 52, 3) := by decide +kernel
theorem dX11_init_165 : decode cX11_init 165 = .ok (.dup, 1) := by decide +kernel
theorem dX11_init_166 : decode cX11_init 166 = .ok (.invokespecial 58, 3) := by decide +kernel
theorem dX11_init_169 : decode cX11_init 169 = .ok (.aastore, 1) := by decide +kernel
theorem dX11_init_170 : decode cX11_init 170 = .ok (.iinc 1 1, 3) := by decide +kernel
theorem dX11_init_173 : decode cX11_init 173 = .ok (.goto (-22), 3) := by decide +kernel
theorem dX11_init_176 : decode cX11_init 176 = .ok (.aload_n 0, 1) := by decide +kernel
theorem dX11_init_177 : decode cX11_init 177 = .ok (.bipush 6, 2) := by decide +kernel
theorem dX11_init_179 : decode cX11_init 179 = .ok (.newarray .int, 2) := by decide +kernel
theorem dX11_init_181 : decode cX11_init 181 = .ok (.putfield 59, 3) := by decide +kernel
theorem dX11_init_184 : decode cX11_init 184 = .ok (.aload_n 0, 1) := by decide +kernel
theorem dX11_init_185 : decode cX11_init 185 = .ok (.bipush 10, 2) := by decide +kernel
theorem dX11_init_187 : decode cX11_init 187 = .ok (.newarray .int, 2) := by decide +kernel
theorem dX11_init_189 : decode cX11_init 189 = .ok (.putfield 63, 3) := by decide +kernel
theorem dX11_init_192 : decode cX11_init 192 = .ok (.return_, 1) := by decide +kernel
set_option maxRecDepth 20000 in
theorem ggX11_lake_X11_shelfAt : GoodIn wsX11_lake wsX11_shelfAt := goodIn_r _ [5, 6, 7, 8, 4, 9, 243, 244, 245, 246, 247, 248, 249, 250, 251] (by decide +kernel) (by decide +kernel)
set_option maxRecDepth 20000 in
theorem gX11_lake_X11_shelfAt : GoodIn wsX11_lake (wsV RX11 66 RX11 yX11_shelfAt wsX11_shelfAt) := goodIn_app (goodIn_of _ (by decide +kernel)) ggX11_lake_X11_shelfAt
set_option maxRecDepth 20000 in
theorem ggX11_lake_X9_lacks : GoodIn wsX11_lake wsX9_lacks := goodIn_r _ [14, 15, 237, 238, 239, 240, 241, 242] (by decide +kernel) (by decide +kernel)
set_option maxRecDepth 20000 in
theorem gX11_lake_X9_lacks : GoodIn wsX11_lake (wsV RX11 70 RX9 yX9_lacks wsX9_lacks) := goodIn_app (goodIn_of _ (by decide +kernel)) ggX11_lake_X9_lacks
set_option maxRecDepth 20000 in
theorem ggX11_lake_X11_firstBadByte : GoodIn wsX11_lake wsX11_firstBadByte := goodIn_r _ [18, 19, 20, 21, 13, 22, 23, 24, 25, 26, 27, 28, 29, 30, 4, 31, 32, 33, 34, 35, 36, 8, 9, 237, 238, 239, 240, 241, 242] (by decide +kernel) (by decide +kernel)
set_option maxRecDepth 20000 in
theorem gX11_lake_X11_firstBadByte : GoodIn wsX11_lake (va_wsS RX11 78 yX11_firstBadByte wsX11_firstBadByte) := goodIn_app (goodIn_of _ (by decide +kernel)) ggX11_lake_X11_firstBadByte
set_option maxRecDepth 20000 in
theorem ggX11_lake_X11_readStatements : GoodIn wsX11_lake wsX11_readStatements := goodIn_r _ [40, 41, 42, 43, 44, 45, 46, 47, 48, 49, 50, 51, 52, 53, 54, 55, 56, 57, 58, 59, 60, 61, 62, 63, 64, 65, 66, 67, 68, 4, 69, 32, 33, 34, 13, 35, 36, 20, 21, 22, 23, 24, 25, 26, 27, 28, 8, 9, 19, 70, 71, 72, 73, 74, 75, 76, 77, 78, 79, 80, 7, 81, 82, 83, 84, 85, 86, 87, 88, 89, 90, 91, 92, 93, 94, 95, 96, 97, 98, 99, 100, 101, 102, 103, 104, 105, 106, 107, 108, 109, 110, 111, 112, 113, 114, 115, 116, 117, 118, 119, 120, 121, 122, 123, 124, 125, 126, 127, 128, 129, 130, 131, 132, 133, 134, 135, 136, 137, 138, 139, 140, 141, 142, 143, 144, 145, 146, 147, 148, 149, 150, 151, 152, 153, 154, 155, 156, 157, 158, 159, 160, 161, 162, 163, 164, 165, 166, 167, 168, 169, 170, 171, 172, 173, 174, 175, 176, 177, 178, 179, 180, 181, 182, 183, 184, 185, 186, 187, 188, 189, 190, 191, 192, 193, 194, 195, 196, 197, 198, 199, 200, 201, 202, 203, 204, 205, 206, 207, 208, 209, 210, 211, 212, 213, 214, 215, 216, 217, 218, 219, 220, 221, 222, 223, 224, 225, 226, 227, 228, 229, 230, 231, 232, 233, 234, 235, 236, 29, 30, 31, 243, 244, 245, 246, 247, 248, 249, 250, 251, 237, 238, 239, 240, 241, 242, 252, 253, 254, 255, 256, 257, 258, 259, 260, 261] (by decide +kernel) (by decide +kernel)
set_option maxRecDepth 20000 in
theorem gX11_lake_X11_readStatements : GoodIn wsX11_lake (wsV RX11 82 RX11 yX11_readStatements wsX11_readStatements) := goodIn_app (goodIn_of _ (by decide +kernel)) ggX11_lake_X11_readStatements
theorem dX11_lake_0 : decode cX11_lake 0 = .ok (.aload_n 0, 1) := by decide +kernel
theorem dX11_lake_1 : decode cX11_lake 1 = .ok (.iload_n 1, 1) := by decide +kernel
theorem dX11_lake_2 : decode cX11_lake 2 = .ok (.invokevirtual 66, 3) := by decide +kernel
theorem dX11_lake_5 : decode cX11_lake 5 = .ok (.astore_n 2, 1) := by decide +kernel
theorem dX11_lake_6 : decode cX11_lake 6 = .ok (.aload_n 2, 1) := by decide +kernel
theorem dX11_lake_7 : decode cX11_lake 7 = .ok (.ifnonnull 5, 3) := by decide +kernel
theorem dX11_lake_10 : decode cX11_lake 10 = .ok (.iconst (-1), 1) := by decide +kernel
theorem dX11_lake_11 : decode cX11_lake 11 = .ok (.ireturn, 1) := by decide +kernel
theorem dX11_lake_12 : decode cX11_lake 12 = .ok (.aload_n 2, 1) := by decide +kernel
theorem dX11_lake_13 : decode cX11_lake 13 = .ok (.iconst 2, 1) := by decide +kernel
theorem dX11_lake_14 : decode cX11_lake 14 = .ok (.invokevirtual 70, 3) := by decide +kernel
theorem dX11_lake_17 : decode cX11_lake 17 = .ok (.istore_n 3, 1) := by decide +kernel
theorem dX11_lake_18 : decode cX11_lake 18 = .ok (.iload_n 3, 1) := by decide +kernel
theorem dX11_lake_19 : decode cX11_lake 19 = .ok (.ifCond .eq 5, 3) := by decide +kernel
theorem dX11_lake_22 : decode cX11_lake 22 = .ok (.iload_n 3, 1) := by decide +kernel
theorem dX11_lake_23 : decode cX11_lake 23 = .ok (.ireturn, 1) := by decide +kernel
theorem dX11_lake_24 : decode cX11_lake 24 = .ok (.aload_n 2, 1) := by decide +kernel
theorem dX11_lake_25 : decode cX11_lake 25 = .ok (.getfield 74, 3) := by decide +kernel
theorem dX11_lake_28 : decode cX11_lake 28 = .ok (.ifCond .eq 6, 3) := by decide +kernel
theorem dX11_lake_31 : decode cX11_lake 31 = .ok (.bipush (-12), 2) := by decide +kernel
theorem dX11_lake_33 : decode cX11_lake 33 = .ok (.ireturn, 1) := by decide +kernel
theorem dX11_lake_34 : decode cX11_lake 34 = .ok (.aload_n 2, 1) := by decide +kernel
theorem dX11_lake_35 : decode cX11_lake 35 = .ok (.invokestatic 78, 3) := by decide +kernel
theorem dX11_lake_38 : decode cX11_lake 38 = .ok (.istore 4, 2) := by decide +kernel
theorem dX11_lake_40 : decode cX11_lake 40 = .ok (.iload 4, 2) := by decide +kernel
theorem dX11_lake_42 : decode cX11_lake 42 = .ok (.ifCond .ge 11, 3) := by decide +kernel
theorem dX11_lake_45 : decode cX11_lake 45 = .ok (.aload_n 0, 1) := by decide +kernel
theorem dX11_lake_46 : decode cX11_lake 46 = .ok (.aload_n 2, 1) := by decide +kernel
theorem dX11_lake_47 : decode cX11_lake 47 = .ok (.invokevirtual 82, 3) := by decide +kernel
theorem dX11_lake_50 : decode cX11_lake 50 = .ok (.goto 9, 3) := by decide +kernel
theorem dX11_lake_53 : decode cX11_lake 53 = .ok (.sipush (-1000), 3) := by decide +kernel
theorem dX11_lake_56 : decode cX11_lake 56 = .ok (.iload 4, 2) := by decide +kernel
theorem dX11_lake_58 : decode cX11_lake 58 = .ok (.isub, 1) := by decide +kernel
theorem dX11_lake_59 : decode cX11_lake 59 = .ok (.ireturn, 1) := by decide +kernel
set_option maxRecDepth 20000 in
theorem ggX11_freeze_X11_shelfAt : GoodIn wsX11_freeze wsX11_shelfAt := goodIn_r _ [6, 7, 8, 9, 5, 10, 159, 160, 161, 162, 163, 164, 165, 166, 167] (by decide +kernel) (by decide +kernel)
set_option maxRecDepth 20000 in
theorem gX11_freeze_X11_shelfAt : GoodIn wsX11_freeze (wsV RX11 66 RX11 yX11_shelfAt wsX11_shelfAt) := goodIn_app (goodIn_of _ (by decide +kernel)) ggX11_freeze_X11_shelfAt
set_option maxRecDepth 20000 in
theorem ggX11_freeze_X6_cellAt : GoodIn wsX11_freeze wsX6_cellAt := goodIn_r _ [15, 16, 9, 5, 10, 174, 175, 176] (by decide +kernel) (by decide +kernel)
set_option maxRecDepth 20000 in
theorem gX11_freeze_X6_cellAt : GoodIn wsX11_freeze (wsV RX11 85 RX6 yX6_cellAt wsX6_cellAt) := goodIn_app (goodIn_of _ (by decide +kernel)) ggX11_freeze_X6_cellAt
set_option maxRecDepth 20000 in
theorem ggX11_freeze_X11_within : GoodIn wsX11_freeze wsX11_within := goodIn_r _ [10] (by decide +kernel) (by decide +kernel)
set_option maxRecDepth 20000 in
theorem gX11_freeze_X11_within : GoodIn wsX11_freeze (va_wsS RX11 89 yX11_within wsX11_within) := goodIn_app (goodIn_of _ (by decide +kernel)) ggX11_freeze_X11_within
set_option maxRecDepth 20000 in
theorem ggX11_freeze_X9_lacks : GoodIn wsX11_freeze wsX9_lacks := goodIn_r _ [21, 22, 168, 169, 170, 171, 172, 173] (by decide +kernel) (by decide +kernel)
set_option maxRecDepth 20000 in
theorem gX11_freeze_X9_lacks : GoodIn wsX11_freeze (wsV RX11 70 RX9 yX9_lacks wsX9_lacks) := goodIn_app (goodIn_of _ (by decide +kernel)) ggX11_freeze_X9_lacks
set_option maxRecDepth 20000 in
theorem ggX11_freeze_X6_freezeIn : GoodIn wsX11_freeze wsX6_freezeIn := goodIn_r _ [26, 27, 28, 29, 12, 13, 14, 15, 16, 9, 5, 10, 30, 31, 8, 32, 33, 34, 35, 36, 37, 38, 39, 40, 41, 42, 43, 44, 45, 46, 47, 48, 49, 50, 51, 52, 53, 54, 55, 56, 57, 58, 59, 60, 61, 62, 63, 64, 65, 66, 67, 68, 69, 70, 71, 72, 73, 74, 75, 76, 77, 78, 79, 80, 81, 82, 83, 84, 85, 86, 87, 88, 89, 90, 91, 92, 93, 94, 95, 96, 97, 98, 99, 100, 101, 102, 103, 104, 105, 106, 107, 108, 109, 110, 111, 112, 113, 114, 115, 116, 117, 118, 119, 120, 121, 122, 123, 124, 125, 126, 127, 128, 129, 130, 131, 132, 133, 134, 135, 136, 137, 138, 139, 140, 141, 142, 143, 144, 145, 146, 147, 148, 149, 150, 151, 152, 153, 154, 155, 156, 157, 158, 174, 175, 176, 177, 178, 179, 180, 181, 182, 183] (by decide +kernel) (by decide +kernel)
set_option maxRecDepth 20000 in
theorem gX11_freeze_X6_freezeIn : GoodIn wsX11_freeze (wsV RX11 99 RX6 yX6_freezeIn wsX6_freezeIn) := goodIn_app (goodIn_of _ (by decide +kernel)) ggX11_freeze_X6_freezeIn
theorem dX11_freeze_0 : decode cX11_freeze 0 = .ok (.aload_n 0, 1) := by decide +kernel
theorem dX11_freeze_1 : decode cX11_freeze 1 = .ok (.iload_n 1, 1) := by decide +kernel
theorem dX11_freeze_2 : decode cX11_freeze 2 = .ok (.invokevirtual 66, 3) := by decide +kernel
theorem dX11_freeze_5 : decode cX11_freeze 5 = .ok (.astore 4, 2) := by decide +kernel
theorem dX11_freeze_7 : decode cX11_freeze 7 = .ok (.aload 4, 2) := by decide +kernel
theorem dX11_freeze_9 : decode cX11_freeze 9 = .ok (.ifnull 24, 3) := by decide +kernel
theorem dX11_freeze_12 : decode cX11_freeze 12 = .ok (.aload_n 0, 1) := by decide +kernel
theorem dX11_freeze_13 : decode cX11_freeze 13 = .ok (.getfield 42, 3) := by decide +kernel
theorem dX11_freeze_16 : decode cX11_freeze 16 = .ok (.iload_n 2, 1) := by decide +kernel
theorem dX11_freeze_17 : decode cX11_freeze 17 = .ok (.invokevirtual 85, 3) := by decide +kernel
theorem dX11_freeze_20 : decode cX11_freeze 20 = .ok (.ifnull 13, 3) := by decide +kernel
theorem dX11_freeze_23 : decode cX11_freeze 23 = .ok (.iload_n 3, 1) := by decide +kernel
theorem dX11_freeze_24 : decode cX11_freeze 24 = .ok (.iconst 1, 1) := by decide +kernel
theorem dX11_freeze_25 : decode cX11_freeze 25 = .ok (.bipush 9, 2) := by decide +kernel
theorem dX11_freeze_27 : decode cX11_freeze 27 = .ok (.invokestatic 89, 3) := by decide +kernel
theorem dX11_freeze_30 : decode cX11_freeze 30 = .ok (.ifCond .ne 5, 3) := by decide +kernel
theorem dX11_freeze_33 : decode cX11_freeze 33 = .ok (.iconst (-1), 1) := by decide +kernel
theorem dX11_freeze_34 : decode cX11_freeze 34 = .ok (.ireturn, 1) := by decide +kernel
theorem dX11_freeze_35 : decode cX11_freeze 35 = .ok (.aload 4, 2) := by decide +kernel
theorem dX11_freeze_37 : decode cX11_freeze 37 = .ok (.iconst 1, 1) := by decide +kernel
theorem dX11_freeze_38 : decode cX11_freeze 38 = .ok (.invokevirtual 70, 3) := by decide +kernel
theorem dX11_freeze_41 : decode cX11_freeze 41 = .ok (.istore 5, 2) := by decide +kernel
theorem dX11_freeze_43 : decode cX11_freeze 43 = .ok (.iload 5, 2) := by decide +kernel
theorem dX11_freeze_45 : decode cX11_freeze 45 = .ok (.ifCond .ne 25, 3) := by decide +kernel
theorem dX11_freeze_48 : decode cX11_freeze 48 = .ok (.aload_n 0, 1) := by decide +kernel
theorem dX11_freeze_49 : decode cX11_freeze 49 = .ok (.getfield 42, 3) := by decide +kernel
theorem dX11_freeze_52 : decode cX11_freeze 52 = .ok (.iload_n 2, 1) := by decide +kernel
theorem dX11_freeze_53 : decode cX11_freeze 53 = .ok (.aload 4, 2) := by decide +kernel
theorem dX11_freeze_55 : decode cX11_freeze 55 = .ok (.getfield 93, 3) := by decide +kernel
theorem dX11_freeze_58 : decode cX11_freeze 58 = .ok (.aload 4, 2) := by decide +kernel
theorem dX11_freeze_60 : decode cX11_freeze 60 = .ok (.getfield 96, 3) := by decide +kernel
theorem dX11_freeze_63 : decode cX11_freeze 63 = .ok (.iload_n 3, 1) := by decide +kernel
theorem dX11_freeze_64 : decode cX11_freeze 64 = .ok (.invokevirtual 99, 3) := by decide +kernel
theorem dX11_freeze_67 : decode cX11_freeze 67 = .ok (.goto 5, 3) := by decide +kernel
theorem dX11_freeze_70 : decode cX11_freeze 70 = .ok (.iload 5, 2) := by decide +kernel
theorem dX11_freeze_72 : decode cX11_freeze 72 = .ok (.ireturn, 1) := by decide +kernel
set_option maxRecDepth 20000 in
theorem ggX11_thaw_X6_thawFor : GoodIn wsX11_thaw wsX6_thawFor := goodIn_r _ [6, 7, 8, 9, 10, 11, 12, 13, 14, 15, 16, 17, 18, 19, 20, 21, 22, 23, 24, 25, 26, 27, 28, 29, 30, 31, 32, 33, 34, 35, 36, 37, 38, 48, 49, 50, 51, 52, 53, 54, 55, 56, 57] (by decide +kernel) (by decide +kernel)
set_option maxRecDepth 20000 in
theorem gX11_thaw_X6_thawFor : GoodIn wsX11_thaw (wsV RX11 103 RX6 yX6_thawFor wsX6_thawFor) := goodIn_app (goodIn_of _ (by decide +kernel)) ggX11_thaw_X6_thawFor
theorem dX11_thaw_0 : decode cX11_thaw 0 = .ok (.aload_n 0, 1) := by decide +kernel
theorem dX11_thaw_1 : decode cX11_thaw 1 = .ok (.getfield 42, 3) := by decide +kernel
theorem dX11_thaw_4 : decode cX11_thaw 4 = .ok (.iload_n 1, 1) := by decide +kernel
theorem dX11_thaw_5 : decode cX11_thaw 5 = .ok (.invokevirtual 103, 3) := by decide +kernel
theorem dX11_thaw_8 : decode cX11_thaw 8 = .ok (.ireturn, 1) := by decide +kernel
set_option maxRecDepth 20000 in
theorem ggX11_cut_X6_cutIn : GoodIn wsX11_cut wsX6_cutIn := goodIn_r _ [6, 7, 8, 9, 5, 10, 11, 12, 13, 14, 15, 16, 17, 18, 19, 20, 21, 22, 23, 24, 25, 26, 27, 28, 29, 30, 31, 32, 33, 43, 44, 45, 46, 47, 48, 49, 50, 51, 52] (by decide +kernel) (by decide +kernel)
set_option maxRecDepth 20000 in
theorem gX11_cut_X6_cutIn : GoodIn wsX11_cut (wsV RX11 106 RX6 yX6_cutIn wsX6_cutIn) := goodIn_app (goodIn_of _ (by decide +kernel)) ggX11_cut_X6_cutIn
theorem dX11_cut_0 : decode cX11_cut 0 = .ok (.aload_n 0, 1) := by decide +kernel
theorem dX11_cut_1 : decode cX11_cut 1 = .ok (.getfield 42, 3) := by decide +kernel
theorem dX11_cut_4 : decode cX11_cut 4 = .ok (.iload_n 1, 1) := by decide +kernel
theorem dX11_cut_5 : decode cX11_cut 5 = .ok (.iload_n 2, 1) := by decide +kernel
theorem dX11_cut_6 : decode cX11_cut 6 = .ok (.invokevirtual 106, 3) := by decide +kernel
theorem dX11_cut_9 : decode cX11_cut 9 = .ok (.ireturn, 1) := by decide +kernel
set_option maxRecDepth 20000 in
theorem ggX11_drift_X6_driftOn : GoodIn wsX11_drift wsX6_driftOn := goodIn_r _ [6, 7, 17, 18, 19, 20, 21, 22, 23, 24, 25, 26] (by decide +kernel) (by decide +kernel)
set_option maxRecDepth 20000 in
theorem gX11_drift_X6_driftOn : GoodIn wsX11_drift (wsV RX11 110 RX6 yX6_driftOn wsX6_driftOn) := goodIn_app (goodIn_of _ (by decide +kernel)) ggX11_drift_X6_driftOn
theorem dX11_drift_0 : decode cX11_drift 0 = .ok (.aload_n 0, 1) := by decide +kernel
theorem dX11_drift_1 : decode cX11_drift 1 = .ok (.getfield 42, 3) := by decide +kernel
theorem dX11_drift_4 : decode cX11_drift 4 = .ok (.invokevirtual 110, 3) := by decide +kernel
theorem dX11_drift_7 : decode cX11_drift 7 = .ok (.ireturn, 1) := by decide +kernel
set_option maxRecDepth 20000 in
theorem ggX11_winter_X6_nextWinter : GoodIn wsX11_winter wsX6_nextWinter := goodIn_r _ [6, 7, 17, 18, 19] (by decide +kernel) (by decide +kernel)
set_option maxRecDepth 20000 in
theorem gX11_winter_X6_nextWinter : GoodIn wsX11_winter (wsV RX11 114 RX6 yX6_nextWinter wsX6_nextWinter) := goodIn_app (goodIn_of _ (by decide +kernel)) ggX11_winter_X6_nextWinter
theorem dX11_winter_0 : decode cX11_winter 0 = .ok (.aload_n 0, 1) := by decide +kernel
theorem dX11_winter_1 : decode cX11_winter 1 = .ok (.getfield 42, 3) := by decide +kernel
theorem dX11_winter_4 : decode cX11_winter 4 = .ok (.invokevirtual 114, 3) := by decide +kernel
theorem dX11_winter_7 : decode cX11_winter 7 = .ok (.ireturn, 1) := by decide +kernel
set_option maxRecDepth 20000 in
theorem ggX11_layer_X6_cellAt : GoodIn wsX11_layer wsX6_cellAt := goodIn_r _ [6, 7, 8, 9, 10, 60, 61, 62] (by decide +kernel) (by decide +kernel)
set_option maxRecDepth 20000 in
theorem gX11_layer_X6_cellAt : GoodIn wsX11_layer (wsV RX11 85 RX6 yX6_cellAt wsX6_cellAt) := goodIn_app (goodIn_of _ (by decide +kernel)) ggX11_layer_X6_cellAt
set_option maxRecDepth 20000 in
theorem ggX11_layer_X2_has : GoodIn wsX11_layer wsX2_has := goodIn_r _ [15, 16, 63, 64, 65, 66, 67, 68, 69] (by decide +kernel) (by decide +kernel)
set_option maxRecDepth 20000 in
theorem gX11_layer_X2_has : GoodIn wsX11_layer (wsV RX11 117 RX2 yX2_has wsX2_has) := goodIn_app (goodIn_of _ (by decide +kernel)) ggX11_layer_X2_has
set_option maxRecDepth 20000 in
theorem ggX11_layer_X2_tellOf : GoodIn wsX11_layer wsX2_tellOf := goodIn_r _ [20, 21, 22, 12, 13, 14, 15, 16, 23, 24, 25, 26, 27, 28, 29, 30, 31, 32, 33, 34, 35, 36, 37, 38, 39, 40, 41, 42, 43, 44, 45, 46, 47, 48, 49, 50, 63, 64, 65, 66, 67, 68, 69] (by decide +kernel) (by decide +kernel)
set_option maxRecDepth 20000 in
theorem gX11_layer_X2_tellOf : GoodIn wsX11_layer (wsV RX11 123 RX2 yX2_tellOf wsX2_tellOf) := goodIn_app (goodIn_of _ (by decide +kernel)) ggX11_layer_X2_tellOf
theorem dX11_layer_0 : decode cX11_layer 0 = .ok (.aload_n 0, 1) := by decide +kernel
theorem dX11_layer_1 : decode cX11_layer 1 = .ok (.getfield 42, 3) := by decide +kernel
theorem dX11_layer_4 : decode cX11_layer 4 = .ok (.iload_n 1, 1) := by decide +kernel
theorem dX11_layer_5 : decode cX11_layer 5 = .ok (.invokevirtual 85, 3) := by decide +kernel
theorem dX11_layer_8 : decode cX11_layer 8 = .ok (.astore 4, 2) := by decide +kernel
theorem dX11_layer_10 : decode cX11_layer 10 = .ok (.aload 4, 2) := by decide +kernel
theorem dX11_layer_12 : decode cX11_layer 12 = .ok (.ifnull 12, 3) := by decide +kernel
theorem dX11_layer_15 : decode cX11_layer 15 = .ok (.aload 4, 2) := by decide +kernel
theorem dX11_layer_17 : decode cX11_layer 17 = .ok (.iload_n 2, 1) := by decide +kernel
theorem dX11_layer_18 : decode cX11_layer 18 = .ok (.invokevirtual 117, 3) := by decide +kernel
theorem dX11_layer_21 : decode cX11_layer 21 = .ok (.ifCond .ne 7, 3) := by decide +kernel
theorem dX11_layer_24 : decode cX11_layer 24 = .ok (.iconst (-1), 1) := by decide +kernel
theorem dX11_layer_25 : decode cX11_layer 25 = .ok (.goto 10, 3) := by decide +kernel
theorem dX11_layer_28 : decode cX11_layer 28 = .ok (.aload 4, 2) := by decide +kernel
theorem dX11_layer_30 : decode cX11_layer 30 = .ok (.iload_n 2, 1) := by decide +kernel
theorem dX11_layer_31 : decode cX11_layer 31 = .ok (.iload_n 3, 1) := by decide +kernel
theorem dX11_layer_32 : decode cX11_layer 32 = .ok (.invokevirtual 123, 3) := by decide +kernel
theorem dX11_layer_35 : decode cX11_layer 35 = .ok (.ireturn, 1) := by decide +kernel
set_option maxRecDepth 20000 in
theorem ggX11_cell_X6_cellAt : GoodIn wsX11_cell wsX6_cellAt := goodIn_r _ [6, 7, 8, 9, 10, 47, 48, 49] (by decide +kernel) (by decide +kernel)
set_option maxRecDepth 20000 in
theorem gX11_cell_X6_cellAt : GoodIn wsX11_cell (wsV RX11 85 RX6 yX6_cellAt wsX6_cellAt) := goodIn_app (goodIn_of _ (by decide +kernel)) ggX11_cell_X6_cellAt
set_option maxRecDepth 20000 in
theorem ggX11_cell_X11_within : GoodIn wsX11_cell wsX11_within := goodIn_r _ [10] (by decide +kernel) (by decide +kernel)
set_option maxRecDepth 20000 in
theorem gX11_cell_X11_within : GoodIn wsX11_cell (va_wsS RX11 89 yX11_within wsX11_within) := goodIn_app (goodIn_of _ (by decide +kernel)) ggX11_cell_X11_within
set_option maxRecDepth 20000 in
theorem ggX11_cell_X2_ice : GoodIn wsX11_cell wsX2_ice := goodIn_r _ [16, 17, 18, 19, 15, 20, 21, 22, 23, 24, 25, 26, 27, 28, 29, 30, 40, 41, 42, 43, 44, 45, 46] (by decide +kernel) (by decide +kernel)
set_option maxRecDepth 20000 in
theorem gX11_cell_X2_ice : GoodIn wsX11_cell (wsV RX11 129 RX2 yX2_ice wsX2_ice) := goodIn_app (goodIn_of _ (by decide +kernel)) ggX11_cell_X2_ice
theorem dX11_cell_0 : decode cX11_cell 0 = .ok (.aload_n 0, 1) := by decide +kernel
theorem dX11_cell_1 : decode cX11_cell 1 = .ok (.getfield 42, 3) := by decide +kernel
theorem dX11_cell_4 : decode cX11_cell 4 = .ok (.iload_n 1, 1) := by decide +kernel
theorem dX11_cell_5 : decode cX11_cell 5 = .ok (.invokevirtual 85, 3) := by decide +kernel
theorem dX11_cell_8 : decode cX11_cell 8 = .ok (.astore_n 3, 1) := by decide +kernel
theorem dX11_cell_9 : decode cX11_cell 9 = .ok (.aload_n 3, 1) := by decide +kernel
theorem dX11_cell_10 : decode cX11_cell 10 = .ok (.ifnull 12, 3) := by decide +kernel
theorem dX11_cell_13 : decode cX11_cell 13 = .ok (.iload_n 2, 1) := by decide +kernel
theorem dX11_cell_14 : decode cX11_cell 14 = .ok (.iconst 0, 1) := by decide +kernel
theorem dX11_cell_15 : decode cX11_cell 15 = .ok (.iconst 1, 1) := by decide +kernel
theorem dX11_cell_16 : decode cX11_cell 16 = .ok (.invokestatic 89, 3) := by decide +kernel
theorem dX11_cell_19 : decode cX11_cell 19 = .ok (.ifCond .ne 5, 3) := by decide +kernel
theorem dX11_cell_22 : decode cX11_cell 22 = .ok (.iconst (-1), 1) := by decide +kernel
theorem dX11_cell_23 : decode cX11_cell 23 = .ok (.ireturn, 1) := by decide +kernel
theorem dX11_cell_24 : decode cX11_cell 24 = .ok (.iload_n 2, 1) := by decide +kernel
theorem dX11_cell_25 : decode cX11_cell 25 = .ok (.ifCond .ne 10, 3) := by decide +kernel
theorem dX11_cell_28 : decode cX11_cell 28 = .ok (.aload_n 3, 1) := by decide +kernel
theorem dX11_cell_29 : decode cX11_cell 29 = .ok (.getfield 126, 3) := by decide +kernel
theorem dX11_cell_32 : decode cX11_cell 32 = .ok (.goto 7, 3) := by decide +kernel
theorem dX11_cell_35 : decode cX11_cell 35 = .ok (.aload_n 3, 1) := by decide +kernel
theorem dX11_cell_36 : decode cX11_cell 36 = .ok (.invokevirtual 129, 3) := by decide +kernel
theorem dX11_cell_39 : decode cX11_cell 39 = .ok (.ireturn, 1) := by decide +kernel
set_option maxRecDepth 20000 in
theorem ggX11_holds_X6_cellAt : GoodIn wsX11_holds wsX6_cellAt := goodIn_r _ [6, 7, 8, 9, 10, 53, 54, 55] (by decide +kernel) (by decide +kernel)
set_option maxRecDepth 20000 in
theorem gX11_holds_X6_cellAt : GoodIn wsX11_holds (wsV RX11 85 RX6 yX6_cellAt wsX6_cellAt) := goodIn_app (goodIn_of _ (by decide +kernel)) ggX11_holds_X6_cellAt
set_option maxRecDepth 20000 in
theorem ggX11_holds_X2_topmostRead : GoodIn wsX11_holds wsX2_topmostRead := goodIn_r _ [15, 16, 17, 18, 19, 14, 20, 21, 22, 23, 24, 25, 26, 27, 28, 29, 30, 31, 32, 33, 34, 35, 36, 37, 38, 39, 40, 41, 42, 43, 56, 57, 58, 59, 60, 61, 62] (by decide +kernel) (by decide +kernel)
set_option maxRecDepth 20000 in
theorem gX11_holds_X2_topmostRead : GoodIn wsX11_holds (wsV RX11 132 RX2 yX2_topmostRead wsX2_topmostRead) := goodIn_app (goodIn_of _ (by decide +kernel)) ggX11_holds_X2_topmostRead
theorem dX11_holds_0 : decode cX11_holds 0 = .ok (.aload_n 0, 1) := by decide +kernel
theorem dX11_holds_1 : decode cX11_holds 1 = .ok (.getfield 42, 3) := by decide +kernel
theorem dX11_holds_4 : decode cX11_holds 4 = .ok (.iload_n 1, 1) := by decide +kernel
theorem dX11_holds_5 : decode cX11_holds 5 = .ok (.invokevirtual 85, 3) := by decide +kernel
theorem dX11_holds_8 : decode cX11_holds 8 = .ok (.astore_n 2, 1) := by decide +kernel
theorem dX11_holds_9 : decode cX11_holds 9 = .ok (.aload_n 2, 1) := by decide +kernel
theorem dX11_holds_10 : decode cX11_holds 10 = .ok (.ifnonnull 7, 3) := by decide +kernel
theorem dX11_holds_13 : decode cX11_holds 13 = .ok (.iconst (-1), 1) := by decide +kernel
theorem dX11_holds_14 : decode cX11_holds 14 = .ok (.goto 7, 3) := by decide +kernel
theorem dX11_holds_17 : decode cX11_holds 17 = .ok (.aload_n 2, 1) := by decide +kernel
theorem dX11_holds_18 : decode cX11_holds 18 = .ok (.invokevirtual 132, 3) := by decide +kernel
theorem dX11_holds_21 : decode cX11_holds 21 = .ok (.ireturn, 1) := by decide +kernel
set_option maxRecDepth 20000 in
theorem ggX11_latest_X11_within : GoodIn wsX11_latest wsX11_within := goodIn_r _ [5] (by decide +kernel) (by decide +kernel)
set_option maxRecDepth 20000 in
theorem gX11_latest_X11_within : GoodIn wsX11_latest (va_wsS RX11 89 yX11_within wsX11_within) := goodIn_app (goodIn_of _ (by decide +kernel)) ggX11_latest_X11_within
set_option maxRecDepth 20000 in
theorem ggX11_latest_X6_latestOf : GoodIn wsX11_latest wsX6_latestOf := goodIn_r _ [10, 11, 12, 13, 14, 15, 16, 17, 18, 19, 20, 21, 22, 23, 24, 25, 26, 27, 37, 38, 39, 40, 41, 42, 43, 44, 45, 46] (by decide +kernel) (by decide +kernel)
set_option maxRecDepth 20000 in
theorem gX11_latest_X6_latestOf : GoodIn wsX11_latest (wsV RX11 135 RX6 yX6_latestOf wsX6_latestOf) := goodIn_app (goodIn_of _ (by decide +kernel)) ggX11_latest_X6_latestOf
theorem dX11_latest_0 : decode cX11_latest 0 = .ok (.iload_n 1, 1) := by decide +kernel
theorem dX11_latest_1 : decode cX11_latest 1 = .ok (.iconst 0, 1) := by decide +kernel
theorem dX11_latest_2 : decode cX11_latest 2 = .ok (.bipush 9, 2) := by decide +kernel
theorem dX11_latest_4 : decode cX11_latest 4 = .ok (.invokestatic 89, 3) := by decide +kernel
theorem dX11_latest_7 : decode cX11_latest 7 = .ok (.ifCond .eq 14, 3) := by decide +kernel
theorem dX11_latest_10 : decode cX11_latest 10 = .ok (.aload_n 0, 1) := by decide +kernel
theorem dX11_latest_11 : decode cX11_latest 11 = .ok (.getfield 42, 3) := by decide +kernel
theorem dX11_latest_14 : decode cX11_latest 14 = .ok (.iload_n 1, 1) := by decide +kernel
theorem dX11_latest_15 : decode cX11_latest 15 = .ok (.invokevirtual 135, 3) := by decide +kernel
theorem dX11_latest_18 : decode cX11_latest 18 = .ok (.goto 4, 3) := by decide +kernel
theorem dX11_latest_21 : decode cX11_latest 21 = .ok (.iconst (-1), 1) := by decide +kernel
theorem dX11_latest_22 : decode cX11_latest 22 = .ok (.ireturn, 1) := by decide +kernel
set_option maxRecDepth 20000 in
theorem ggX11_seen_X11_within : GoodIn wsX11_seen wsX11_within := goodIn_r _ [6] (by decide +kernel) (by decide +kernel)
set_option maxRecDepth 20000 in
theorem gX11_seen_X11_within : GoodIn wsX11_seen (va_wsS RX11 89 yX11_within wsX11_within) := goodIn_app (goodIn_of _ (by decide +kernel)) ggX11_seen_X11_within
set_option maxRecDepth 20000 in
theorem ggX11_seen_X6_tellSeen : GoodIn wsX11_seen wsX6_tellSeen := goodIn_r _ [11, 12, 13, 14, 15, 16, 17, 18, 19, 20, 21, 22, 23, 24, 25, 26, 27, 28, 29, 30, 31, 32, 33, 34, 35, 36, 37, 38, 39, 40, 41, 55, 56, 57, 58, 59, 60, 61, 62, 63, 64] (by decide +kernel) (by decide +kernel)
set_option maxRecDepth 20000 in
theorem gX11_seen_X6_tellSeen : GoodIn wsX11_seen (wsV RX11 138 RX6 yX6_tellSeen wsX6_tellSeen) := goodIn_app (goodIn_of _ (by decide +kernel)) ggX11_seen_X6_tellSeen
set_option maxRecDepth 20000 in
theorem ggX11_seen_X11_seenInAll : GoodIn wsX11_seen wsX11_seenInAll := goodIn_r _ [45, 2, 46, 47, 48, 49, 50, 51, 52, 53, 54] (by decide +kernel) (by decide +kernel)
set_option maxRecDepth 20000 in
theorem gX11_seen_X11_seenInAll : GoodIn wsX11_seen (wsV RX11 142 RX11 yX11_seenInAll wsX11_seenInAll) := goodIn_app (goodIn_of _ (by decide +kernel)) ggX11_seen_X11_seenInAll
theorem dX11_seen_0 : decode cX11_seen 0 = .ok (.iload_n 1, 1) := by decide +kernel
theorem dX11_seen_1 : decode cX11_seen 1 = .ok (.iconst 0, 1) := by decide +kernel
theorem dX11_seen_2 : decode cX11_seen 2 = .ok (.bipush 63, 2) := by decide +kernel
theorem dX11_seen_4 : decode cX11_seen 4 = .ok (.invokestatic 89, 3) := by decide +kernel
theorem dX11_seen_7 : decode cX11_seen 7 = .ok (.ifCond .eq 13, 3) := by decide +kernel
theorem dX11_seen_10 : decode cX11_seen 10 = .ok (.iload_n 2, 1) := by decide +kernel
theorem dX11_seen_11 : decode cX11_seen 11 = .ok (.iconst 0, 1) := by decide +kernel
theorem dX11_seen_12 : decode cX11_seen 12 = .ok (.bipush 99, 2) := by decide +kernel
theorem dX11_seen_14 : decode cX11_seen 14 = .ok (.invokestatic 89, 3) := by decide +kernel
theorem dX11_seen_17 : decode cX11_seen 17 = .ok (.ifCond .ne 5, 3) := by decide +kernel
theorem dX11_seen_20 : decode cX11_seen 20 = .ok (.iconst (-1), 1) := by decide +kernel
theorem dX11_seen_21 : decode cX11_seen 21 = .ok (.ireturn, 1) := by decide +kernel
theorem dX11_seen_22 : decode cX11_seen 22 = .ok (.aload_n 0, 1) := by decide +kernel
theorem dX11_seen_23 : decode cX11_seen 23 = .ok (.getfield 42, 3) := by decide +kernel
theorem dX11_seen_26 : decode cX11_seen 26 = .ok (.iload_n 2, 1) := by decide +kernel
theorem dX11_seen_27 : decode cX11_seen 27 = .ok (.aload_n 0, 1) := by decide +kernel
theorem dX11_seen_28 : decode cX11_seen 28 = .ok (.getfield 59, 3) := by decide +kernel
theorem dX11_seen_31 : decode cX11_seen 31 = .ok (.invokevirtual 138, 3) := by decide +kernel
theorem dX11_seen_34 : decode cX11_seen 34 = .ok (.aload_n 0, 1) := by decide +kernel
theorem dX11_seen_35 : decode cX11_seen 35 = .ok (.iload_n 1, 1) := by decide +kernel
theorem dX11_seen_36 : decode cX11_seen 36 = .ok (.invokevirtual 142, 3) := by decide +kernel
theorem dX11_seen_39 : decode cX11_seen 39 = .ok (.ireturn, 1) := by decide +kernel
set_option maxRecDepth 20000 in
theorem ggX11_holes_X11_within : GoodIn wsX11_holes wsX11_within := goodIn_r _ [6] (by decide +kernel) (by decide +kernel)
set_option maxRecDepth 20000 in
theorem gX11_holes_X11_within : GoodIn wsX11_holes (va_wsS RX11 89 yX11_within wsX11_within) := goodIn_app (goodIn_of _ (by decide +kernel)) ggX11_holes_X11_within
set_option maxRecDepth 20000 in
theorem ggX11_holes_X6_tellSeen : GoodIn wsX11_holes wsX6_tellSeen := goodIn_r _ [11, 12, 13, 14, 15, 16, 17, 18, 19, 20, 21, 22, 23, 24, 25, 26, 27, 28, 29, 30, 31, 32, 33, 34, 35, 36, 37, 38, 39, 40, 41, 62, 63, 64, 65, 66, 67, 68, 69, 70, 71] (by decide +kernel) (by decide +kernel)
set_option maxRecDepth 20000 in
theorem gX11_holes_X6_tellSeen : GoodIn wsX11_holes (wsV RX11 138 RX6 yX6_tellSeen wsX6_tellSeen) := goodIn_app (goodIn_of _ (by decide +kernel)) ggX11_holes_X6_tellSeen
set_option maxRecDepth 20000 in
theorem ggX11_holes_J6_bitCount_0f7a4 : GoodIn wsX11_holes wsJ6_bitCount_0f7a4 := goodIn_r _ [45, 46, 47, 48] (by decide +kernel) (by decide +kernel)
set_option maxRecDepth 20000 in
theorem gX11_holes_J6_bitCount_0f7a4 : GoodIn wsX11_holes (va_wsS RX11 145 yJ6_bitCount_0f7a4 wsJ6_bitCount_0f7a4) := goodIn_app (goodIn_of _ (by decide +kernel)) ggX11_holes_J6_bitCount_0f7a4
set_option maxRecDepth 20000 in
theorem ggX11_holes_X11_seenInAll : GoodIn wsX11_holes wsX11_seenInAll := goodIn_r _ [52, 2, 53, 54, 55, 56, 57, 58, 59, 60, 61] (by decide +kernel) (by decide +kernel)
set_option maxRecDepth 20000 in
theorem gX11_holes_X11_seenInAll : GoodIn wsX11_holes (wsV RX11 142 RX11 yX11_seenInAll wsX11_seenInAll) := goodIn_app (goodIn_of _ (by decide +kernel)) ggX11_holes_X11_seenInAll
theorem dX11_holes_0 : decode cX11_holes 0 = .ok (.iload_n 1, 1) := by decide +kernel
theorem dX11_holes_1 : decode cX11_holes 1 = .ok (.iconst 0, 1) := by decide +kernel
theorem dX11_holes_2 : decode cX11_holes 2 = .ok (.sipush 1023, 3) := by decide +kernel
theorem dX11_holes_5 : decode cX11_holes 5 = .ok (.invokestatic 89, 3) := by decide +kernel
theorem dX11_holes_8 : decode cX11_holes 8 = .ok (.ifCond .eq 13, 3) := by decide +kernel
theorem dX11_holes_11 : decode cX11_holes 11 = .ok (.iload_n 2, 1) := by decide +kernel
theorem dX11_holes_12 : decode cX11_holes 12 = .ok (.iconst 0, 1) := by decide +kernel
theorem dX11_holes_13 : decode cX11_holes 13 = .ok (.bipush 99, 2) := by decide +kernel
theorem dX11_holes_15 : decode cX11_holes 15 = .ok (.invokestatic 89, 3) := by decide +kernel
theorem dX11_holes_18 : decode cX11_holes 18 = .ok (.ifCond .ne 5, 3) := by decide +kernel
theorem dX11_holes_21 : decode cX11_holes 21 = .ok (.iconst (-1), 1) := by decide +kernel
theorem dX11_holes_22 : decode cX11_holes 22 = .ok (.ireturn, 1) := by decide +kernel
theorem dX11_holes_23 : decode cX11_holes 23 = .ok (.aload_n 0, 1) := by decide +kernel
theorem dX11_holes_24 : decode cX11_holes 24 = .ok (.getfield 42, 3) := by decide +kernel
theorem dX11_holes_27 : decode cX11_holes 27 = .ok (.iload_n 2, 1) := by decide +kernel
theorem dX11_holes_28 : decode cX11_holes 28 = .ok (.aload_n 0, 1) := by decide +kernel
theorem dX11_holes_29 : decode cX11_holes 29 = .ok (.getfield 59, 3) := by decide +kernel
theorem dX11_holes_32 : decode cX11_holes 32 = .ok (.invokevirtual 138, 3) := by decide +kernel
theorem dX11_holes_35 : decode cX11_holes 35 = .ok (.bipush (-4), 2) := by decide +kernel
theorem dX11_holes_37 : decode cX11_holes 37 = .ok (.istore_n 3, 1) := by decide +kernel
theorem dX11_holes_38 : decode cX11_holes 38 = .ok (.bipush 7, 2) := by decide +kernel
theorem dX11_holes_40 : decode cX11_holes 40 = .ok (.istore 4, 2) := by decide +kernel
theorem dX11_holes_42 : decode cX11_holes 42 = .ok (.iconst 0, 1) := by decide +kernel
theorem dX11_holes_43 : decode cX11_holes 43 = .ok (.istore 5, 2) := by decide +kernel
theorem dX11_holes_45 : decode cX11_holes 45 = .ok (.iload 5, 2) := by decide +kernel
theorem dX11_holes_47 : decode cX11_holes 47 = .ok (.bipush 64, 2) := by decide +kernel
theorem dX11_holes_49 : decode cX11_holes 49 = .ok (.if_icmp .ge 42, 3) := by decide +kernel
theorem dX11_holes_52 : decode cX11_holes 52 = .ok (.iload 5, 2) := by decide +kernel
theorem dX11_holes_54 : decode cX11_holes 54 = .ok (.invokestatic 145, 3) := by decide +kernel
theorem dX11_holes_57 : decode cX11_holes 57 = .ok (.iload 4, 2) := by decide +kernel
theorem dX11_holes_59 : decode cX11_holes 59 = .ok (.if_icmp .ge 26, 3) := by decide +kernel
theorem dX11_holes_62 : decode cX11_holes 62 = .ok (.iload_n 1, 1) := by decide +kernel
theorem dX11_holes_63 : decode cX11_holes 63 = .ok (.aload_n 0, 1) := by decide +kernel
theorem dX11_holes_64 : decode cX11_holes 64 = .ok (.iload 5, 2) := by decide +kernel
theorem dX11_holes_66 : decode cX11_holes 66 = .ok (.invokevirtual 142, 3) := by decide +kernel
theorem dX11_holes_69 : decode cX11_holes 69 = .ok (.iconst (-1), 1) := by decide +kernel
theorem dX11_holes_70 : decode cX11_holes 70 = .ok (.ixor, 1) := by decide +kernel
theorem dX11_holes_71 : decode cX11_holes 71 = .ok (.iand, 1) := by decide +kernel
theorem dX11_holes_72 : decode cX11_holes 72 = .ok (.ifCond .ne 13, 3) := by decide +kernel
theorem dX11_holes_75 : decode cX11_holes 75 = .ok (.iload 5, 2) := by decide +kernel
theorem dX11_holes_77 : decode cX11_holes 77 = .ok (.istore_n 3, 1) := by decide +kernel
theorem dX11_holes_78 : decode cX11_holes 78 = .ok (.iload 5, 2) := by decide +kernel
theorem dX11_holes_80 : decode cX11_holes 80 = .ok (.invokestatic 145, 3) := by decide +kernel
theorem dX11_holes_83 : decode cX11_holes 83 = .ok (.istore 4, 2) := by decide +kernel
theorem dX11_holes_85 : decode cX11_holes 85 = .ok (.iinc 5 1, 3) := by decide +kernel
theorem dX11_holes_88 : decode cX11_holes 88 = .ok (.goto (-43), 3) := by decide +kernel
theorem dX11_holes_91 : decode cX11_holes 91 = .ok (.iload_n 3, 1) := by decide +kernel
theorem dX11_holes_92 : decode cX11_holes 92 = .ok (.ireturn, 1) := by decide +kernel
set_option maxRecDepth 20000 in
theorem ggX11_lasts_X6_cellAt : GoodIn wsX11_lasts wsX6_cellAt := goodIn_r _ [6, 7, 8, 9, 10, 45, 46, 47] (by decide +kernel) (by decide +kernel)
set_option maxRecDepth 20000 in
theorem gX11_lasts_X6_cellAt : GoodIn wsX11_lasts (wsV RX11 85 RX6 yX6_cellAt wsX6_cellAt) := goodIn_app (goodIn_of _ (by decide +kernel)) ggX11_lasts_X6_cellAt
set_option maxRecDepth 20000 in
theorem ggX11_lasts_X2_has : GoodIn wsX11_lasts wsX2_has := goodIn_r _ [15, 16, 48, 49, 50, 51, 52, 53, 54] (by decide +kernel) (by decide +kernel)
set_option maxRecDepth 20000 in
theorem gX11_lasts_X2_has : GoodIn wsX11_lasts (wsV RX11 117 RX2 yX2_has wsX2_has) := goodIn_app (goodIn_of _ (by decide +kernel)) ggX11_lasts_X2_has
set_option maxRecDepth 20000 in
theorem ggX11_lasts_X2_daysOf : GoodIn wsX11_lasts wsX2_daysOf := goodIn_r _ [20, 16, 21, 22, 23, 24, 25, 26, 27, 14, 28, 29, 30, 12, 13, 15, 31, 32, 33, 34, 35, 48, 49, 50, 51, 52, 53, 54] (by decide +kernel) (by decide +kernel)
set_option maxRecDepth 20000 in
theorem gX11_lasts_X2_daysOf : GoodIn wsX11_lasts (wsV RX11 150 RX2 yX2_daysOf wsX2_daysOf) := goodIn_app (goodIn_of _ (by decide +kernel)) ggX11_lasts_X2_daysOf
theorem dX11_lasts_0 : decode cX11_lasts 0 = .ok (.aload_n 0, 1) := by decide +kernel
theorem dX11_lasts_1 : decode cX11_lasts 1 = .ok (.getfield 42, 3) := by decide +kernel
theorem dX11_lasts_4 : decode cX11_lasts 4 = .ok (.iload_n 1, 1) := by decide +kernel
theorem dX11_lasts_5 : decode cX11_lasts 5 = .ok (.invokevirtual 85, 3) := by decide +kernel
theorem dX11_lasts_8 : decode cX11_lasts 8 = .ok (.astore_n 3, 1) := by decide +kernel
theorem dX11_lasts_9 : decode cX11_lasts 9 = .ok (.aload_n 3, 1) := by decide +kernel
theorem dX11_lasts_10 : decode cX11_lasts 10 = .ok (.ifnull 11, 3) := by decide +kernel
theorem dX11_lasts_13 : decode cX11_lasts 13 = .ok (.aload_n 3, 1) := by decide +kernel
theorem dX11_lasts_14 : decode cX11_lasts 14 = .ok (.iload_n 2, 1) := by decide +kernel
theorem dX11_lasts_15 : decode cX11_lasts 15 = .ok (.invokevirtual 117, 3) := by decide +kernel
theorem dX11_lasts_18 : decode cX11_lasts 18 = .ok (.ifCond .ne 7, 3) := by decide +kernel
theorem dX11_lasts_21 : decode cX11_lasts 21 = .ok (.iconst (-1), 1) := by decide +kernel
theorem dX11_lasts_22 : decode cX11_lasts 22 = .ok (.goto 8, 3) := by decide +kernel
theorem dX11_lasts_25 : decode cX11_lasts 25 = .ok (.aload_n 3, 1) := by decide +kernel
theorem dX11_lasts_26 : decode cX11_lasts 26 = .ok (.iload_n 2, 1) := by decide +kernel
theorem dX11_lasts_27 : decode cX11_lasts 27 = .ok (.invokevirtual 150, 3) := by decide +kernel
theorem dX11_lasts_30 : decode cX11_lasts 30 = .ok (.ireturn, 1) := by decide +kernel
set_option maxRecDepth 20000 in
theorem ggX11_frost_X11_isKindAndOath : GoodIn wsX11_frost wsX11_isKindAndOath := goodIn_r _ [5, 6, 7, 4, 8] (by decide +kernel) (by decide +kernel)
set_option maxRecDepth 20000 in
theorem gX11_frost_X11_isKindAndOath : GoodIn wsX11_frost (va_wsS RX11 153 yX11_isKindAndOath wsX11_isKindAndOath) := goodIn_app (goodIn_of _ (by decide +kernel)) ggX11_frost_X11_isKindAndOath
set_option maxRecDepth 20000 in
theorem ggX11_frost_X11_within : GoodIn wsX11_frost wsX11_within := goodIn_r _ [8] (by decide +kernel) (by decide +kernel)
set_option maxRecDepth 20000 in
theorem gX11_frost_X11_within : GoodIn wsX11_frost (va_wsS RX11 89 yX11_within wsX11_within) := goodIn_app (goodIn_of _ (by decide +kernel)) ggX11_frost_X11_within
set_option maxRecDepth 20000 in
theorem ggX11_frost_X11_kindOf : GoodIn wsX11_frost wsX11_kindOf := goodIn_r _ [11, 6, 7, 4, 8] (by decide +kernel) (by decide +kernel)
set_option maxRecDepth 20000 in
theorem gX11_frost_X11_kindOf : GoodIn wsX11_frost (va_wsS RX11 157 yX11_kindOf wsX11_kindOf) := goodIn_app (goodIn_of _ (by decide +kernel)) ggX11_frost_X11_kindOf
set_option maxRecDepth 20000 in
theorem ggX11_frost_X0_fingersIn : GoodIn wsX11_frost wsX0_fingersIn := goodIn_r _ [18, 19, 20, 21, 22, 23, 24, 25, 13, 26, 27, 28, 29] (by decide +kernel) (by decide +kernel)
set_option maxRecDepth 20000 in
theorem gX11_frost_X0_fingersIn_u161X0 : GoodIn wsX11_frost (va_wsO RX11 161 RX0 "SaidInWinter$Layer" ⟨"SaidInWinter$Layer", "fingersIn", "(II)I"⟩ yX0_fingersIn wsX0_fingersIn) := goodIn_app (goodIn_of _ (by decide +kernel)) ggX11_frost_X0_fingersIn
set_option maxRecDepth 20000 in
theorem ggX11_frost_X3_fingersIn : GoodIn wsX11_frost wsX3_fingersIn := goodIn_r _ [24, 25, 13, 26, 27, 28, 29] (by decide +kernel) (by decide +kernel)
set_option maxRecDepth 20000 in
theorem gX11_frost_X3_fingersIn_u161X1 : GoodIn wsX11_frost (va_wsO RX11 161 RX1 "SaidInWinter$Layer" ⟨"SaidInWinter$Layer", "fingersIn", "(II)I"⟩ yX3_fingersIn wsX3_fingersIn) := goodIn_app (goodIn_of _ (by decide +kernel)) ggX11_frost_X3_fingersIn
set_option maxRecDepth 20000 in
theorem gX11_frost_X3_fingersIn_u161X3 : GoodIn wsX11_frost (va_wsO RX11 161 RX3 "SaidInWinter$Layer" ⟨"SaidInWinter$Layer", "fingersIn", "(II)I"⟩ yX3_fingersIn wsX3_fingersIn) := goodIn_app (goodIn_of _ (by decide +kernel)) ggX11_frost_X3_fingersIn
set_option maxRecDepth 20000 in
theorem ggX11_frost_X10_fingersIn : GoodIn wsX11_frost wsX10_fingersIn := goodIn_r _ [35, 36, 13, 37, 27, 28, 29] (by decide +kernel) (by decide +kernel)
set_option maxRecDepth 20000 in
theorem gX11_frost_X10_fingersIn_u161X4 : GoodIn wsX11_frost (va_wsO RX11 161 RX4 "SaidInWinter$Layer" ⟨"SaidInWinter$Layer", "fingersIn", "(II)I"⟩ yX10_fingersIn wsX10_fingersIn) := goodIn_app (goodIn_of _ (by decide +kernel)) ggX11_frost_X10_fingersIn
set_option maxRecDepth 20000 in
theorem ggX11_frost_X5_fingersIn : GoodIn wsX11_frost wsX5_fingersIn := goodIn_r _ [41, 42, 43, 44, 45, 46, 13, 47, 27, 28, 29] (by decide +kernel) (by decide +kernel)
set_option maxRecDepth 20000 in
theorem gX11_frost_X5_fingersIn_u161X5 : GoodIn wsX11_frost (va_wsO RX11 161 RX5 "SaidInWinter$Layer" ⟨"SaidInWinter$Layer", "fingersIn", "(II)I"⟩ yX5_fingersIn wsX5_fingersIn) := goodIn_app (goodIn_of _ (by decide +kernel)) ggX11_frost_X5_fingersIn
set_option maxRecDepth 20000 in
theorem ggX11_frost_X7_fingersIn : GoodIn wsX11_frost wsX7_fingersIn := goodIn_r _ [29] (by decide +kernel) (by decide +kernel)
set_option maxRecDepth 20000 in
theorem gX11_frost_X7_fingersIn : GoodIn wsX11_frost (wsV RX11 161 RX7 yX7_fingersIn wsX7_fingersIn) := goodIn_app (goodIn_of _ (by decide +kernel)) ggX11_frost_X7_fingersIn
set_option maxRecDepth 20000 in
theorem ggX11_frost_X8_fingersIn : GoodIn wsX11_frost wsX8_fingersIn := goodIn_r _ [53, 54, 55, 56, 33, 34, 35, 36, 13, 37, 27, 28, 29] (by decide +kernel) (by decide +kernel)
set_option maxRecDepth 20000 in
theorem gX11_frost_X8_fingersIn_u161X8 : GoodIn wsX11_frost (va_wsO RX11 161 RX8 "SaidInWinter$Layer" ⟨"SaidInWinter$Layer", "fingersIn", "(II)I"⟩ yX8_fingersIn wsX8_fingersIn) := goodIn_app (goodIn_of _ (by decide +kernel)) ggX11_frost_X8_fingersIn
set_option maxRecDepth 20000 in
theorem gX11_frost_X10_fingersIn_u161X10 : GoodIn wsX11_frost (va_wsO RX11 161 RX10 "SaidInWinter$Layer" ⟨"SaidInWinter$Layer", "fingersIn", "(II)I"⟩ yX10_fingersIn wsX10_fingersIn) := goodIn_app (goodIn_of _ (by decide +kernel)) ggX11_frost_X10_fingersIn
set_option maxRecDepth 20000 in
theorem ggX11_frost_X3_melts : GoodIn wsX11_frost wsX3_melts := goodIn_r _ [63, 64, 59, 26, 65, 28, 66] (by decide +kernel) (by decide +kernel)
set_option maxRecDepth 20000 in
theorem gX11_frost_X3_melts_u164X0 : GoodIn wsX11_frost (va_wsO RX11 164 RX0 "SaidInWinter$Layer" ⟨"SaidInWinter$Layer", "melts", "(I)I"⟩ yX3_melts wsX3_melts) := goodIn_app (goodIn_of _ (by decide +kernel)) ggX11_frost_X3_melts
set_option maxRecDepth 20000 in
theorem ggX11_frost_X1_melts : GoodIn wsX11_frost wsX1_melts := goodIn_r _ [70, 71, 72, 73, 62, 23, 63, 64, 59, 26, 65, 28, 66] (by decide +kernel) (by decide +kernel)
set_option maxRecDepth 20000 in
theorem gX11_frost_X1_melts_u164X1 : GoodIn wsX11_frost (va_wsO RX11 164 RX1 "SaidInWinter$Layer" ⟨"SaidInWinter$Layer", "melts", "(I)I"⟩ yX1_melts wsX1_melts) := goodIn_app (goodIn_of _ (by decide +kernel)) ggX11_frost_X1_melts
set_option maxRecDepth 20000 in
theorem gX11_frost_X3_melts_u164X3 : GoodIn wsX11_frost (va_wsO RX11 164 RX3 "SaidInWinter$Layer" ⟨"SaidInWinter$Layer", "melts", "(I)I"⟩ yX3_melts wsX3_melts) := goodIn_app (goodIn_of _ (by decide +kernel)) ggX11_frost_X3_melts
set_option maxRecDepth 20000 in
theorem ggX11_frost_X4_melts : GoodIn wsX11_frost wsX4_melts := goodIn_r _ [78, 79, 80, 81, 82, 34, 83, 84, 59, 37, 65, 28, 66] (by decide +kernel) (by decide +kernel)
set_option maxRecDepth 20000 in
theorem gX11_frost_X4_melts_u164X4 : GoodIn wsX11_frost (va_wsO RX11 164 RX4 "SaidInWinter$Layer" ⟨"SaidInWinter$Layer", "melts", "(I)I"⟩ yX4_melts wsX4_melts) := goodIn_app (goodIn_of _ (by decide +kernel)) ggX11_frost_X4_melts
set_option maxRecDepth 20000 in
theorem ggX11_frost_X5_melts : GoodIn wsX11_frost wsX5_melts := goodIn_r _ [87, 88, 59, 47, 65, 28, 66] (by decide +kernel) (by decide +kernel)
set_option maxRecDepth 20000 in
theorem gX11_frost_X5_melts_u164X5 : GoodIn wsX11_frost (va_wsO RX11 164 RX5 "SaidInWinter$Layer" ⟨"SaidInWinter$Layer", "melts", "(I)I"⟩ yX5_melts wsX5_melts) := goodIn_app (goodIn_of _ (by decide +kernel)) ggX11_frost_X5_melts
set_option maxRecDepth 20000 in
theorem ggX11_frost_X7_melts : GoodIn wsX11_frost wsX7_melts := goodIn_r _ [66] (by decide +kernel) (by decide +kernel)
set_option maxRecDepth 20000 in
theorem gX11_frost_X7_melts : GoodIn wsX11_frost (wsV RX11 164 RX7 yX7_melts wsX7_melts) := goodIn_app (goodIn_of _ (by decide +kernel)) ggX11_frost_X7_melts
set_option maxRecDepth 20000 in
theorem ggX11_frost_X8_melts : GoodIn wsX11_frost wsX8_melts := goodIn_r _ [93, 94, 80, 56, 82, 34, 83, 84, 59, 37, 65, 28, 66] (by decide +kernel) (by decide +kernel)
set_option maxRecDepth 20000 in
theorem gX11_frost_X8_melts_u164X8 : GoodIn wsX11_frost (va_wsO RX11 164 RX8 "SaidInWinter$Layer" ⟨"SaidInWinter$Layer", "melts", "(I)I"⟩ yX8_melts wsX8_melts) := goodIn_app (goodIn_of _ (by decide +kernel)) ggX11_frost_X8_melts
set_option maxRecDepth 20000 in
theorem ggX11_frost_X10_melts : GoodIn wsX11_frost wsX10_melts := goodIn_r _ [83, 84, 59, 37, 65, 28, 66] (by decide +kernel) (by decide +kernel)
set_option maxRecDepth 20000 in
theorem gX11_frost_X10_melts_u164X10 : GoodIn wsX11_frost (va_wsO RX11 164 RX10 "SaidInWinter$Layer" ⟨"SaidInWinter$Layer", "melts", "(I)I"⟩ yX10_melts wsX10_melts) := goodIn_app (goodIn_of _ (by decide +kernel)) ggX11_frost_X10_melts
theorem dX11_frost_0 : decode cX11_frost 0 = .ok (.iload_n 1, 1) := by decide +kernel
theorem dX11_frost_1 : decode cX11_frost 1 = .ok (.iload_n 2, 1) := by decide +kernel
theorem dX11_frost_2 : decode cX11_frost 2 = .ok (.invokestatic 153, 3) := by decide +kernel
theorem dX11_frost_5 : decode cX11_frost 5 = .ok (.ifCond .eq 13, 3) := by decide +kernel
theorem dX11_frost_8 : decode cX11_frost 8 = .ok (.iload_n 3, 1) := by decide +kernel
theorem dX11_frost_9 : decode cX11_frost 9 = .ok (.iconst 1, 1) := by decide +kernel
theorem dX11_frost_10 : decode cX11_frost 10 = .ok (.bipush 99, 2) := by decide +kernel
theorem dX11_frost_12 : decode cX11_frost 12 = .ok (.invokestatic 89, 3) := by decide +kernel
theorem dX11_frost_15 : decode cX11_frost 15 = .ok (.ifCond .ne 5, 3) := by decide +kernel
theorem dX11_frost_18 : decode cX11_frost 18 = .ok (.iconst (-1), 1) := by decide +kernel
theorem dX11_frost_19 : decode cX11_frost 19 = .ok (.ireturn, 1) := by decide +kernel
theorem dX11_frost_20 : decode cX11_frost 20 = .ok (.aload_n 0, 1) := by decide +kernel
theorem dX11_frost_21 : decode cX11_frost 21 = .ok (.getfield 31, 3) := by decide +kernel
theorem dX11_frost_24 : decode cX11_frost 24 = .ok (.iload_n 1, 1) := by decide +kernel
theorem dX11_frost_25 : decode cX11_frost 25 = .ok (.invokestatic 157, 3) := by decide +kernel
theorem dX11_frost_28 : decode cX11_frost 28 = .ok (.astore 4, 2) := by decide +kernel
theorem dX11_frost_30 : decode cX11_frost 30 = .ok (.iconst 1, 1) := by decide +kernel
theorem dX11_frost_31 : decode cX11_frost 31 = .ok (.istore 5, 2) := by decide +kernel
theorem dX11_frost_33 : decode cX11_frost 33 = .ok (.iload 5, 2) := by decide +kernel
theorem dX11_frost_35 : decode cX11_frost 35 = .ok (.bipush 9, 2) := by decide +kernel
theorem dX11_frost_37 : decode cX11_frost 37 = .ok (.if_icmp .gt 31, 3) := by decide +kernel
theorem dX11_frost_40 : decode cX11_frost 40 = .ok (.aload 4, 2) := by decide +kernel
theorem dX11_frost_42 : decode cX11_frost 42 = .ok (.iload 5, 2) := by decide +kernel
theorem dX11_frost_44 : decode cX11_frost 44 = .ok (.iload_n 2, 1) := by decide +kernel
theorem dX11_frost_45 : decode cX11_frost 45 = .ok (.invokevirtual 161, 3) := by decide +kernel
theorem dX11_frost_48 : decode cX11_frost 48 = .ok (.iload_n 3, 1) := by decide +kernel
theorem dX11_frost_49 : decode cX11_frost 49 = .ok (.aload 4, 2) := by decide +kernel
theorem dX11_frost_51 : decode cX11_frost 51 = .ok (.iload_n 2, 1) := by decide +kernel
theorem dX11_frost_52 : decode cX11_frost 52 = .ok (.invokevirtual 164, 3) := by decide +kernel
theorem dX11_frost_55 : decode cX11_frost 55 = .ok (.imul, 1) := by decide +kernel
theorem dX11_frost_56 : decode cX11_frost 56 = .ok (.if_icmp .le 6, 3) := by decide +kernel
theorem dX11_frost_59 : decode cX11_frost 59 = .ok (.iload 5, 2) := by decide +kernel
theorem dX11_frost_61 : decode cX11_frost 61 = .ok (.ireturn, 1) := by decide +kernel
theorem dX11_frost_62 : decode cX11_frost 62 = .ok (.iinc 5 1, 3) := by decide +kernel
theorem dX11_frost_65 : decode cX11_frost 65 = .ok (.goto (-32), 3) := by decide +kernel
theorem dX11_frost_68 : decode cX11_frost 68 = .ok (.bipush (-4), 2) := by decide +kernel
theorem dX11_frost_70 : decode cX11_frost 70 = .ok (.ireturn, 1) := by decide +kernel
set_option maxRecDepth 20000 in
theorem ggX11_where_X11_within : GoodIn wsX11_where wsX11_within := goodIn_r _ [5] (by decide +kernel) (by decide +kernel)
set_option maxRecDepth 20000 in
theorem gX11_where_X11_within : GoodIn wsX11_where (va_wsS RX11 89 yX11_within wsX11_within) := goodIn_app (goodIn_of _ (by decide +kernel)) ggX11_where_X11_within
set_option maxRecDepth 20000 in
theorem ggX11_where_X6_cellsWith : GoodIn wsX11_where wsX6_cellsWith := goodIn_r _ [10, 11, 12, 13, 14, 15, 16, 17, 18, 19, 20, 21, 22, 23, 24, 25, 26, 27, 28, 29, 30, 31, 32, 33, 34, 35, 36, 37, 38, 39, 40, 41, 42, 43, 44, 54, 55, 56, 57, 58, 59, 60, 61, 62, 63] (by decide +kernel) (by decide +kernel)
set_option maxRecDepth 20000 in
theorem gX11_where_X6_cellsWith : GoodIn wsX11_where (wsV RX11 167 RX6 yX6_cellsWith wsX6_cellsWith) := goodIn_app (goodIn_of _ (by decide +kernel)) ggX11_where_X6_cellsWith
theorem dX11_where_0 : decode cX11_where 0 = .ok (.iload_n 1, 1) := by decide +kernel
theorem dX11_where_1 : decode cX11_where 1 = .ok (.iconst 0, 1) := by decide +kernel
theorem dX11_where_2 : decode cX11_where 2 = .ok (.bipush 9, 2) := by decide +kernel
theorem dX11_where_4 : decode cX11_where 4 = .ok (.invokestatic 89, 3) := by decide +kernel
theorem dX11_where_7 : decode cX11_where 7 = .ok (.ifCond .eq 13, 3) := by decide +kernel
theorem dX11_where_10 : decode cX11_where 10 = .ok (.iload_n 2, 1) := by decide +kernel
theorem dX11_where_11 : decode cX11_where 11 = .ok (.iconst 0, 1) := by decide +kernel
theorem dX11_where_12 : decode cX11_where 12 = .ok (.bipush 99, 2) := by decide +kernel
theorem dX11_where_14 : decode cX11_where 14 = .ok (.invokestatic 89, 3) := by decide +kernel
theorem dX11_where_17 : decode cX11_where 17 = .ok (.ifCond .ne 5, 3) := by decide +kernel
theorem dX11_where_20 : decode cX11_where 20 = .ok (.iconst (-1), 1) := by decide +kernel
theorem dX11_where_21 : decode cX11_where 21 = .ok (.ireturn, 1) := by decide +kernel
theorem dX11_where_22 : decode cX11_where 22 = .ok (.aload_n 0, 1) := by decide +kernel
theorem dX11_where_23 : decode cX11_where 23 = .ok (.getfield 42, 3) := by decide +kernel
theorem dX11_where_26 : decode cX11_where 26 = .ok (.iload_n 1, 1) := by decide +kernel
theorem dX11_where_27 : decode cX11_where 27 = .ok (.iload_n 2, 1) := by decide +kernel
theorem dX11_where_28 : decode cX11_where 28 = .ok (.invokevirtual 167, 3) := by decide +kernel
theorem dX11_where_31 : decode cX11_where 31 = .ok (.ireturn, 1) := by decide +kernel
set_option maxRecDepth 20000 in
theorem ggX11_thin_X11_within : GoodIn wsX11_thin wsX11_within := goodIn_r _ [5] (by decide +kernel) (by decide +kernel)
set_option maxRecDepth 20000 in
theorem gX11_thin_X11_within : GoodIn wsX11_thin (va_wsS RX11 89 yX11_within wsX11_within) := goodIn_app (goodIn_of _ (by decide +kernel)) ggX11_thin_X11_within
set_option maxRecDepth 20000 in
theorem ggX11_thin_X6_thinLayers : GoodIn wsX11_thin wsX6_thinLayers := goodIn_r _ [10, 11, 12, 13, 14, 9, 15, 16, 17, 18, 19, 20, 21, 22, 23, 24, 25, 26, 27, 28, 29, 30, 31, 32, 33, 34, 35, 36, 37, 51, 52, 53, 54, 55, 56, 57, 58, 59, 60] (by decide +kernel) (by decide +kernel)
set_option maxRecDepth 20000 in
theorem gX11_thin_X6_thinLayers : GoodIn wsX11_thin (wsV RX11 170 RX6 yX6_thinLayers wsX6_thinLayers) := goodIn_app (goodIn_of _ (by decide +kernel)) ggX11_thin_X6_thinLayers
set_option maxRecDepth 20000 in
theorem ggX11_thin_X6_firstThin : GoodIn wsX11_thin wsX6_firstThin := goodIn_r _ [41, 11, 12, 13, 14, 9, 15, 16, 17, 18, 19, 20, 21, 22, 23, 24, 25, 26, 27, 28, 29, 30, 31, 32, 33, 34, 35, 36, 37, 51, 52, 53, 54, 55, 56, 57, 58, 59, 60] (by decide +kernel) (by decide +kernel)
set_option maxRecDepth 20000 in
theorem gX11_thin_X6_firstThin : GoodIn wsX11_thin (wsV RX11 173 RX6 yX6_firstThin wsX6_firstThin) := goodIn_app (goodIn_of _ (by decide +kernel)) ggX11_thin_X6_firstThin
theorem dX11_thin_0 : decode cX11_thin 0 = .ok (.iload_n 1, 1) := by decide +kernel
theorem dX11_thin_1 : decode cX11_thin 1 = .ok (.iconst 0, 1) := by decide +kernel
theorem dX11_thin_2 : decode cX11_thin 2 = .ok (.iconst 1, 1) := by decide +kernel
theorem dX11_thin_3 : decode cX11_thin 3 = .ok (.invokestatic 89, 3) := by decide +kernel
theorem dX11_thin_6 : decode cX11_thin 6 = .ok (.ifCond .ne 5, 3) := by decide +kernel
theorem dX11_thin_9 : decode cX11_thin 9 = .ok (.iconst (-1), 1) := by decide +kernel
theorem dX11_thin_10 : decode cX11_thin 10 = .ok (.ireturn, 1) := by decide +kernel
theorem dX11_thin_11 : decode cX11_thin 11 = .ok (.iload_n 1, 1) := by decide +kernel
theorem dX11_thin_12 : decode cX11_thin 12 = .ok (.ifCond .ne 13, 3) := by decide +kernel
theorem dX11_thin_15 : decode cX11_thin 15 = .ok (.aload_n 0, 1) := by decide +kernel
theorem dX11_thin_16 : decode cX11_thin 16 = .ok (.getfield 42, 3) := by decide +kernel
theorem dX11_thin_19 : decode cX11_thin 19 = .ok (.invokevirtual 170, 3) := by decide +kernel
theorem dX11_thin_22 : decode cX11_thin 22 = .ok (.goto 10, 3) := by decide +kernel
theorem dX11_thin_25 : decode cX11_thin 25 = .ok (.aload_n 0, 1) := by decide +kernel
theorem dX11_thin_26 : decode cX11_thin 26 = .ok (.getfield 42, 3) := by decide +kernel
theorem dX11_thin_29 : decode cX11_thin 29 = .ok (.invokevirtual 173, 3) := by decide +kernel
theorem dX11_thin_32 : decode cX11_thin 32 = .ok (.ireturn, 1) := by decide +kernel
set_option maxRecDepth 20000 in
theorem ggX11_spans_X6_cellAt : GoodIn wsX11_spans wsX6_cellAt := goodIn_r _ [6, 7, 8, 9, 10, 41, 42, 43] (by decide +kernel) (by decide +kernel)
set_option maxRecDepth 20000 in
theorem gX11_spans_X6_cellAt : GoodIn wsX11_spans (wsV RX11 85 RX6 yX6_cellAt wsX6_cellAt) := goodIn_app (goodIn_of _ (by decide +kernel)) ggX11_spans_X6_cellAt
set_option maxRecDepth 20000 in
theorem ggX11_spans_X11_within : GoodIn wsX11_spans wsX11_within := goodIn_r _ [10] (by decide +kernel) (by decide +kernel)
set_option maxRecDepth 20000 in
theorem gX11_spans_X11_within : GoodIn wsX11_spans (va_wsS RX11 89 yX11_within wsX11_within) := goodIn_app (goodIn_of _ (by decide +kernel)) ggX11_spans_X11_within
set_option maxRecDepth 20000 in
theorem ggX11_spans_X2_layerBehind : GoodIn wsX11_spans wsX2_layerBehind := goodIn_r _ [16, 17, 18, 19, 20, 15, 21, 22, 23, 24, 25, 26, 44, 45, 46, 47, 48, 49, 50] (by decide +kernel) (by decide +kernel)
set_option maxRecDepth 20000 in
theorem gX11_spans_X2_layerBehind : GoodIn wsX11_spans (wsV RX11 176 RX2 yX2_layerBehind wsX2_layerBehind) := goodIn_app (goodIn_of _ (by decide +kernel)) ggX11_spans_X2_layerBehind
set_option maxRecDepth 20000 in
theorem ggX11_spans_X2_winterAt : GoodIn wsX11_spans wsX2_winterAt := goodIn_r _ [30, 31, 23, 24, 25, 15, 26, 17, 44, 45, 46, 47, 48, 49, 50] (by decide +kernel) (by decide +kernel)
set_option maxRecDepth 20000 in
theorem gX11_spans_X2_winterAt : GoodIn wsX11_spans (wsV RX11 179 RX2 yX2_winterAt wsX2_winterAt) := goodIn_app (goodIn_of _ (by decide +kernel)) ggX11_spans_X2_winterAt
theorem dX11_spans_0 : decode cX11_spans 0 = .ok (.aload_n 0, 1) := by decide +kernel
theorem dX11_spans_1 : decode cX11_spans 1 = .ok (.getfield 42, 3) := by decide +kernel
theorem dX11_spans_4 : decode cX11_spans 4 = .ok (.iload_n 1, 1) := by decide +kernel
theorem dX11_spans_5 : decode cX11_spans 5 = .ok (.invokevirtual 85, 3) := by decide +kernel
theorem dX11_spans_8 : decode cX11_spans 8 = .ok (.astore_n 3, 1) := by decide +kernel
theorem dX11_spans_9 : decode cX11_spans 9 = .ok (.aload_n 3, 1) := by decide +kernel
theorem dX11_spans_10 : decode cX11_spans 10 = .ok (.ifnull 13, 3) := by decide +kernel
theorem dX11_spans_13 : decode cX11_spans 13 = .ok (.iload_n 2, 1) := by decide +kernel
theorem dX11_spans_14 : decode cX11_spans 14 = .ok (.iconst 0, 1) := by decide +kernel
theorem dX11_spans_15 : decode cX11_spans 15 = .ok (.bipush 98, 2) := by decide +kernel
theorem dX11_spans_17 : decode cX11_spans 17 = .ok (.invokestatic 89, 3) := by decide +kernel
theorem dX11_spans_20 : decode cX11_spans 20 = .ok (.ifCond .ne 5, 3) := by decide +kernel
theorem dX11_spans_23 : decode cX11_spans 23 = .ok (.iconst (-1), 1) := by decide +kernel
theorem dX11_spans_24 : decode cX11_spans 24 = .ok (.ireturn, 1) := by decide +kernel
theorem dX11_spans_25 : decode cX11_spans 25 = .ok (.aload_n 3, 1) := by decide +kernel
theorem dX11_spans_26 : decode cX11_spans 26 = .ok (.iload_n 2, 1) := by decide +kernel
theorem dX11_spans_27 : decode cX11_spans 27 = .ok (.invokevirtual 176, 3) := by decide +kernel
theorem dX11_spans_30 : decode cX11_spans 30 = .ok (.istore 4, 2) := by decide +kernel
theorem dX11_spans_32 : decode cX11_spans 32 = .ok (.iload 4, 2) := by decide +kernel
theorem dX11_spans_34 : decode cX11_spans 34 = .ok (.ifCond .ge 8, 3) := by decide +kernel
theorem dX11_spans_37 : decode cX11_spans 37 = .ok (.bipush (-4), 2) := by decide +kernel
theorem dX11_spans_39 : decode cX11_spans 39 = .ok (.goto 9, 3) := by decide +kernel
theorem dX11_spans_42 : decode cX11_spans 42 = .ok (.aload_n 3, 1) := by decide +kernel
theorem dX11_spans_43 : decode cX11_spans 43 = .ok (.iload 4, 2) := by decide +kernel
theorem dX11_spans_45 : decode cX11_spans 45 = .ok (.invokevirtual 179, 3) := by decide +kernel
theorem dX11_spans_48 : decode cX11_spans 48 = .ok (.ireturn, 1) := by decide +kernel
set_option maxRecDepth 20000 in
theorem ggX11_disorder_X6_allUnordered : GoodIn wsX11_disorder wsX6_allUnordered := goodIn_r _ [6, 7, 8, 9, 10, 11, 12, 13, 14, 15, 16, 17, 18, 19, 20, 21, 22, 32, 33, 34, 35, 36, 37, 38, 39, 40, 41] (by decide +kernel) (by decide +kernel)
set_option maxRecDepth 20000 in
theorem gX11_disorder_X6_allUnordered : GoodIn wsX11_disorder (wsV RX11 182 RX6 yX6_allUnordered wsX6_allUnordered) := goodIn_app (goodIn_of _ (by decide +kernel)) ggX11_disorder_X6_allUnordered
theorem dX11_disorder_0 : decode cX11_disorder 0 = .ok (.aload_n 0, 1) := by decide +kernel
theorem dX11_disorder_1 : decode cX11_disorder 1 = .ok (.getfield 42, 3) := by decide +kernel
theorem dX11_disorder_4 : decode cX11_disorder 4 = .ok (.invokevirtual 182, 3) := by decide +kernel
theorem dX11_disorder_7 : decode cX11_disorder 7 = .ok (.ireturn, 1) := by decide +kernel
set_option maxRecDepth 20000 in
theorem ggX11_order_X11_within : GoodIn wsX11_order wsX11_within := goodIn_r _ [6] (by decide +kernel) (by decide +kernel)
set_option maxRecDepth 20000 in
theorem gX11_order_X11_within : GoodIn wsX11_order (va_wsS RX11 89 yX11_within wsX11_within) := goodIn_app (goodIn_of _ (by decide +kernel)) ggX11_order_X11_within
set_option maxRecDepth 20000 in
theorem ggX11_order_X6_tellAllAhead : GoodIn wsX11_order wsX6_tellAllAhead := goodIn_r _ [11, 12, 13, 14, 15, 16, 17, 18, 19, 20, 21, 22, 23, 24, 25, 26, 27, 28, 29, 30, 31, 4, 5, 6, 60, 61, 62, 63, 64, 65, 66, 67, 68, 69] (by decide +kernel) (by decide +kernel)
set_option maxRecDepth 20000 in
theorem gX11_order_X6_tellAllAhead : GoodIn wsX11_order (wsV RX11 185 RX6 yX6_tellAllAhead wsX6_tellAllAhead) := goodIn_app (goodIn_of _ (by decide +kernel)) ggX11_order_X6_tellAllAhead
set_option maxRecDepth 20000 in
theorem ggX11_order_X6_allOaths : GoodIn wsX11_order wsX6_allOaths := goodIn_r _ [35, 12, 36, 37, 38, 20, 39, 22, 23, 24, 25, 26, 27, 28, 29, 30, 31, 60, 61, 62, 63, 64, 65, 66, 67, 68, 69] (by decide +kernel) (by decide +kernel)
set_option maxRecDepth 20000 in
theorem gX11_order_X6_allOaths : GoodIn wsX11_order (wsV RX11 189 RX6 yX6_allOaths wsX6_allOaths) := goodIn_app (goodIn_of _ (by decide +kernel)) ggX11_order_X6_allOaths
set_option maxRecDepth 20000 in
theorem ggX11_order_J6_bitCount_0f7a4 : GoodIn wsX11_order wsJ6_bitCount_0f7a4 := goodIn_r _ [43, 44, 45, 46] (by decide +kernel) (by decide +kernel)
set_option maxRecDepth 20000 in
theorem gX11_order_J6_bitCount_0f7a4 : GoodIn wsX11_order (va_wsS RX11 145 yJ6_bitCount_0f7a4 wsJ6_bitCount_0f7a4) := goodIn_app (goodIn_of _ (by decide +kernel)) ggX11_order_J6_bitCount_0f7a4
set_option maxRecDepth 20000 in
theorem ggX11_order_X11_leastNext : GoodIn wsX11_order wsX11_leastNext := goodIn_r _ [50, 2, 51, 52, 53, 54, 55, 56, 57, 58, 59] (by decide +kernel) (by decide +kernel)
set_option maxRecDepth 20000 in
theorem gX11_order_X11_leastNext : GoodIn wsX11_order (wsV RX11 192 RX11 yX11_leastNext wsX11_leastNext) := goodIn_app (goodIn_of _ (by decide +kernel)) ggX11_order_X11_leastNext
theorem dX11_order_0 : decode cX11_order 0 = .ok (.iload_n 1, 1) := by decide +kernel
theorem dX11_order_1 : decode cX11_order 1 = .ok (.iconst 0, 1) := by decide +kernel
theorem dX11_order_2 : decode cX11_order 2 = .ok (.iconst 1, 1) := by decide +kernel
theorem dX11_order_3 : decode cX11_order 3 = .ok (.invokestatic 89, 3) := by decide +kernel
theorem dX11_order_6 : decode cX11_order 6 = .ok (.ifCond .ne 5, 3) := by decide +kernel
theorem dX11_order_9 : decode cX11_order 9 = .ok (.iconst (-1), 1) := by decide +kernel
theorem dX11_order_10 : decode cX11_order 10 = .ok (.ireturn, 1) := by decide +kernel
theorem dX11_order_11 : decode cX11_order 11 = .ok (.aload_n 0, 1) := by decide +kernel
theorem dX11_order_12 : decode cX11_order 12 = .ok (.getfield 42, 3) := by decide +kernel
theorem dX11_order_15 : decode cX11_order 15 = .ok (.aload_n 0, 1) := by decide +kernel
theorem dX11_order_16 : decode cX11_order 16 = .ok (.getfield 63, 3) := by decide +kernel
theorem dX11_order_19 : decode cX11_order 19 = .ok (.invokevirtual 185, 3) := by decide +kernel
theorem dX11_order_22 : decode cX11_order 22 = .ok (.aload_n 0, 1) := by decide +kernel
theorem dX11_order_23 : decode cX11_order 23 = .ok (.getfield 42, 3) := by decide +kernel
theorem dX11_order_26 : decode cX11_order 26 = .ok (.invokevirtual 189, 3) := by decide +kernel
theorem dX11_order_29 : decode cX11_order 29 = .ok (.istore_n 2, 1) := by decide +kernel
theorem dX11_order_30 : decode cX11_order 30 = .ok (.iconst 0, 1) := by decide +kernel
theorem dX11_order_31 : decode cX11_order 31 = .ok (.istore_n 3, 1) := by decide +kernel
theorem dX11_order_32 : decode cX11_order 32 = .ok (.bipush (-4), 2) := by decide +kernel
theorem dX11_order_34 : decode cX11_order 34 = .ok (.istore 4, 2) := by decide +kernel
theorem dX11_order_36 : decode cX11_order 36 = .ok (.bipush (-4), 2) := by decide +kernel
theorem dX11_order_38 : decode cX11_order 38 = .ok (.istore 5, 2) := by decide +kernel
theorem dX11_order_40 : decode cX11_order 40 = .ok (.iload_n 2, 1) := by decide +kernel
theorem dX11_order_41 : decode cX11_order 41 = .ok (.invokestatic 145, 3) := by decide +kernel
theorem dX11_order_44 : decode cX11_order 44 = .ok (.istore 6, 2) := by decide +kernel
theorem dX11_order_46 : decode cX11_order 46 = .ok (.iload 6, 2) := by decide +kernel
theorem dX11_order_48 : decode cX11_order 48 = .ok (.ifCond .le 45, 3) := by decide +kernel
theorem dX11_order_51 : decode cX11_order 51 = .ok (.aload_n 0, 1) := by decide +kernel
theorem dX11_order_52 : decode cX11_order 52 = .ok (.iload_n 2, 1) := by decide +kernel
theorem dX11_order_53 : decode cX11_order 53 = .ok (.iload_n 3, 1) := by decide +kernel
theorem dX11_order_54 : decode cX11_order 54 = .ok (.invokevirtual 192, 3) := by decide +kernel
theorem dX11_order_57 : decode cX11_order 57 = .ok (.istore 5, 2) := by decide +kernel
theorem dX11_order_59 : decode cX11_order 59 = .ok (.iload 5, 2) := by decide +kernel
theorem dX11_order_61 : decode cX11_order 61 = .ok (.ifCond .ge 6, 3) := by decide +kernel
theorem dX11_order_64 : decode cX11_order 64 = .ok (.bipush (-4), 2) := by decide +kernel
theorem dX11_order_66 : decode cX11_order 66 = .ok (.ireturn, 1) := by decide +kernel
theorem dX11_order_67 : decode cX11_order 67 = .ok (.iload_n 3, 1) := by decide +kernel
theorem dX11_order_68 : decode cX11_order 68 = .ok (.ifCond .ne 8, 3) := by decide +kernel
theorem dX11_order_71 : decode cX11_order 71 = .ok (.iload 5, 2) := by decide +kernel
theorem dX11_order_73 : decode cX11_order 73 = .ok (.goto 5, 3) := by decide +kernel
theorem dX11_order_76 : decode cX11_order 76 = .ok (.iload 4, 2) := by decide +kernel
theorem dX11_order_78 : decode cX11_order 78 = .ok (.istore 4, 2) := by decide +kernel
theorem dX11_order_80 : decode cX11_order 80 = .ok (.iload_n 3, 1) := by decide +kernel
theorem dX11_order_81 : decode cX11_order 81 = .ok (.iconst 1, 1) := by decide +kernel
theorem dX11_order_82 : decode cX11_order 82 = .ok (.iload 5, 2) := by decide +kernel
theorem dX11_order_84 : decode cX11_order 84 = .ok (.ishl, 1) := by decide +kernel
theorem dX11_order_85 : decode cX11_order 85 = .ok (.ior, 1) := by decide +kernel
theorem dX11_order_86 : decode cX11_order 86 = .ok (.istore_n 3, 1) := by decide +kernel
theorem dX11_order_87 : decode cX11_order 87 = .ok (.iinc 6 (-1), 3) := by decide +kernel
theorem dX11_order_90 : decode cX11_order 90 = .ok (.goto (-44), 3) := by decide +kernel
theorem dX11_order_93 : decode cX11_order 93 = .ok (.iload_n 1, 1) := by decide +kernel
theorem dX11_order_94 : decode cX11_order 94 = .ok (.ifCond .ne 8, 3) := by decide +kernel
theorem dX11_order_97 : decode cX11_order 97 = .ok (.iload 4, 2) := by decide +kernel
theorem dX11_order_99 : decode cX11_order 99 = .ok (.goto 5, 3) := by decide +kernel
theorem dX11_order_102 : decode cX11_order 102 = .ok (.iload 5, 2) := by decide +kernel
theorem dX11_order_104 : decode cX11_order 104 = .ok (.ireturn, 1) := by decide +kernel
set_option maxRecDepth 20000 in
theorem ggX11_joined_X6_cellAt : GoodIn wsX11_joined wsX6_cellAt := goodIn_r _ [6, 7, 8, 9, 10, 43, 44, 45] (by decide +kernel) (by decide +kernel)
set_option maxRecDepth 20000 in
theorem gX11_joined_X6_cellAt : GoodIn wsX11_joined (wsV RX11 85 RX6 yX6_cellAt wsX6_cellAt) := goodIn_app (goodIn_of _ (by decide +kernel)) ggX11_joined_X6_cellAt
set_option maxRecDepth 20000 in
theorem ggX11_joined_X11_alikeFingers : GoodIn wsX11_joined wsX11_alikeFingers := goodIn_r _ [13, 14, 15, 16, 17, 18, 19, 20, 21, 22, 23, 24, 25, 26, 27, 28, 29, 30, 31, 32, 33, 46, 47, 48, 49, 50, 51, 52] (by decide +kernel) (by decide +kernel)
set_option maxRecDepth 20000 in
theorem gX11_joined_X11_alikeFingers : GoodIn wsX11_joined (va_wsS RX11 195 yX11_alikeFingers wsX11_alikeFingers) := goodIn_app (goodIn_of _ (by decide +kernel)) ggX11_joined_X11_alikeFingers
theorem dX11_joined_0 : decode cX11_joined 0 = .ok (.aload_n 0, 1) := by decide +kernel
theorem dX11_joined_1 : decode cX11_joined 1 = .ok (.getfield 42, 3) := by decide +kernel
theorem dX11_joined_4 : decode cX11_joined 4 = .ok (.iload_n 1, 1) := by decide +kernel
theorem dX11_joined_5 : decode cX11_joined 5 = .ok (.invokevirtual 85, 3) := by decide +kernel
theorem dX11_joined_8 : decode cX11_joined 8 = .ok (.astore_n 3, 1) := by decide +kernel
theorem dX11_joined_9 : decode cX11_joined 9 = .ok (.aload_n 0, 1) := by decide +kernel
theorem dX11_joined_10 : decode cX11_joined 10 = .ok (.getfield 42, 3) := by decide +kernel
theorem dX11_joined_13 : decode cX11_joined 13 = .ok (.iload_n 2, 1) := by decide +kernel
theorem dX11_joined_14 : decode cX11_joined 14 = .ok (.invokevirtual 85, 3) := by decide +kernel
theorem dX11_joined_17 : decode cX11_joined 17 = .ok (.astore 4, 2) := by decide +kernel
theorem dX11_joined_19 : decode cX11_joined 19 = .ok (.aload_n 3, 1) := by decide +kernel
theorem dX11_joined_20 : decode cX11_joined 20 = .ok (.ifnull 13, 3) := by decide +kernel
theorem dX11_joined_23 : decode cX11_joined 23 = .ok (.aload 4, 2) := by decide +kernel
theorem dX11_joined_25 : decode cX11_joined 25 = .ok (.ifnull 8, 3) := by decide +kernel
theorem dX11_joined_28 : decode cX11_joined 28 = .ok (.iload_n 1, 1) := by decide +kernel
theorem dX11_joined_29 : decode cX11_joined 29 = .ok (.iload_n 2, 1) := by decide +kernel
theorem dX11_joined_30 : decode cX11_joined 30 = .ok (.if_icmp .ne 7, 3) := by decide +kernel
theorem dX11_joined_33 : decode cX11_joined 33 = .ok (.iconst (-1), 1) := by decide +kernel
theorem dX11_joined_34 : decode cX11_joined 34 = .ok (.goto 9, 3) := by decide +kernel
theorem dX11_joined_37 : decode cX11_joined 37 = .ok (.aload_n 3, 1) := by decide +kernel
theorem dX11_joined_38 : decode cX11_joined 38 = .ok (.aload 4, 2) := by decide +kernel
theorem dX11_joined_40 : decode cX11_joined 40 = .ok (.invokestatic 195, 3) := by decide +kernel
theorem dX11_joined_43 : decode cX11_joined 43 = .ok (.ireturn, 1) := by decide +kernel
set_option maxRecDepth 20000 in
theorem ggX11_seeded_X11_within : GoodIn wsX11_seeded wsX11_within := goodIn_r _ [7] (by decide +kernel) (by decide +kernel)
set_option maxRecDepth 20000 in
theorem gX11_seeded_X11_within : GoodIn wsX11_seeded (va_wsS RX11 89 yX11_within wsX11_within) := goodIn_app (goodIn_of _ (by decide +kernel)) ggX11_seeded_X11_within
set_option maxRecDepth 20000 in
theorem ggX11_seeded_X6_takeAll : GoodIn wsX11_seeded wsX6_takeAll := goodIn_r _ [12, 13, 14, 15, 16, 17, 18, 19, 20, 21, 22, 23, 24, 25, 26, 224, 225, 226, 227, 228, 229, 230, 231, 232, 233] (by decide +kernel) (by decide +kernel)
set_option maxRecDepth 20000 in
theorem gX11_seeded_X6_takeAll : GoodIn wsX11_seeded (wsV RX11 199 RX6 yX6_takeAll wsX6_takeAll) := goodIn_app (goodIn_of _ (by decide +kernel)) ggX11_seeded_X6_takeAll
set_option maxRecDepth 20000 in
theorem ggX11_seeded_X11_drawBelow : GoodIn wsX11_seeded wsX11_drawBelow := goodIn_r _ [30, 3, 31, 32, 33, 215, 216, 217, 218, 219, 220, 221, 222, 223] (by decide +kernel) (by decide +kernel)
set_option maxRecDepth 20000 in
theorem gX11_seeded_X11_drawBelow : GoodIn wsX11_seeded (wsV RX11 206 RX11 yX11_drawBelow wsX11_drawBelow) := goodIn_app (goodIn_of _ (by decide +kernel)) ggX11_seeded_X11_drawBelow
set_option maxRecDepth 20000 in
theorem ggX11_seeded_X11_happen : GoodIn wsX11_seeded wsX11_happen := goodIn_r _ [37, 1, 38, 39, 40, 11, 41, 14, 5, 6, 7, 42, 43, 44, 18, 45, 20, 46, 47, 48, 49, 50, 51, 52, 53, 54, 55, 56, 57, 25, 58, 59, 60, 61, 24, 62, 63, 64, 65, 66, 67, 68, 69, 13, 70, 71, 72, 73, 27, 28, 29, 30, 3, 31, 32, 33, 74, 75, 76, 77, 78, 79, 80, 81, 82, 83, 84, 4, 85, 86, 87, 88, 89, 90, 21, 22, 23, 26, 91, 92, 93, 94, 95, 96, 97, 98, 99, 100, 101, 102, 103, 104, 105, 106, 107, 108, 109, 110, 111, 112, 113, 114, 115, 116, 117, 118, 119, 120, 121, 122, 123, 124, 125, 126, 127, 128, 129, 130, 131, 132, 133, 134, 135, 136, 137, 138, 139, 140, 141, 142, 143, 144, 145, 146, 147, 148, 149, 150, 151, 152, 153, 154, 155, 156, 157, 158, 159, 160, 161, 162, 163, 164, 165, 166, 167, 168, 169, 170, 171, 172, 173, 174, 175, 176, 177, 178, 179, 180, 181, 182, 183, 184, 185, 186, 187, 188, 189, 190, 191, 192, 193, 194, 195, 196, 197, 198, 199, 200, 201, 202, 215, 216, 217, 218, 219, 220, 221, 222, 223, 224, 225, 226, 227, 228, 229, 230, 231, 232, 233] (by decide +kernel) (by decide +kernel)
set_option maxRecDepth 20000 in
theorem gX11_seeded_X11_happen : GoodIn wsX11_seeded (wsV RX11 209 RX11 yX11_happen wsX11_happen) := goodIn_app (goodIn_of _ (by decide +kernel)) ggX11_seeded_X11_happen
set_option maxRecDepth 20000 in
theorem ggX11_seeded_X6_allIce : GoodIn wsX11_seeded wsX6_allIce := goodIn_r _ [206, 14, 207, 208, 209, 18, 210, 211, 212, 213, 214, 20, 58, 59, 60, 61, 24, 50, 51, 52, 53, 224, 225, 226, 227, 228, 229, 230, 231, 232, 233] (by decide +kernel) (by decide +kernel)
set_option maxRecDepth 20000 in
theorem gX11_seeded_X6_allIce : GoodIn wsX11_seeded (wsV RX11 213 RX6 yX6_allIce wsX6_allIce) := goodIn_app (goodIn_of _ (by decide +kernel)) ggX11_seeded_X6_allIce
theorem dX11_seeded_0 : decode cX11_seeded 0 = .ok (.iload_n 1, 1) := by decide +kernel
theorem dX11_seeded_1 : decode cX11_seeded 1 = .ok (.iconst 1, 1) := by decide +kernel
theorem dX11_seeded_2 : decode cX11_seeded 2 = .ok (.bipush 40, 2) := by decide +kernel
theorem dX11_seeded_4 : decode cX11_seeded 4 = .ok (.invokestatic 89, 3) := by decide +kernel
theorem dX11_seeded_7 : decode cX11_seeded 7 = .ok (.ifCond .ne 5, 3) := by decide +kernel
theorem dX11_seeded_10 : decode cX11_seeded 10 = .ok (.iconst (-1), 1) := by decide +kernel
theorem dX11_seeded_11 : decode cX11_seeded 11 = .ok (.ireturn, 1) := by decide +kernel
theorem dX11_seeded_12 : decode cX11_seeded 12 = .ok (.aload_n 0, 1) := by decide +kernel
theorem dX11_seeded_13 : decode cX11_seeded 13 = .ok (.getfield 49, 3) := by decide +kernel
theorem dX11_seeded_16 : decode cX11_seeded 16 = .ok (.aload_n 0, 1) := by decide +kernel
theorem dX11_seeded_17 : decode cX11_seeded 17 = .ok (.getfield 42, 3) := by decide +kernel
theorem dX11_seeded_20 : decode cX11_seeded 20 = .ok (.invokevirtual 199, 3) := by decide +kernel
theorem dX11_seeded_23 : decode cX11_seeded 23 = .ok (.aload_n 0, 1) := by decide +kernel
theorem dX11_seeded_24 : decode cX11_seeded 24 = .ok (.iload_n 2, 1) := by decide +kernel
theorem dX11_seeded_25 : decode cX11_seeded 25 = .ok (.putfield 203, 3) := by decide +kernel
theorem dX11_seeded_28 : decode cX11_seeded 28 = .ok (.iconst 0, 1) := by decide +kernel
theorem dX11_seeded_29 : decode cX11_seeded 29 = .ok (.istore_n 3, 1) := by decide +kernel
theorem dX11_seeded_30 : decode cX11_seeded 30 = .ok (.iload_n 3, 1) := by decide +kernel
theorem dX11_seeded_31 : decode cX11_seeded 31 = .ok (.iload_n 1, 1) := by decide +kernel
theorem dX11_seeded_32 : decode cX11_seeded 32 = .ok (.if_icmp .ge 18, 3) := by decide +kernel
theorem dX11_seeded_35 : decode cX11_seeded 35 = .ok (.aload_n 0, 1) := by decide +kernel
theorem dX11_seeded_36 : decode cX11_seeded 36 = .ok (.aload_n 0, 1) := by decide +kernel
theorem dX11_seeded_37 : decode cX11_seeded 37 = .ok (.iconst 4, 1) := by decide +kernel
theorem dX11_seeded_38 : decode cX11_seeded 38 = .ok (.invokevirtual 206, 3) := by decide +kernel
theorem dX11_seeded_41 : decode cX11_seeded 41 = .ok (.invokevirtual 209, 3) := by decide +kernel
theorem dX11_seeded_44 : decode cX11_seeded 44 = .ok (.iinc 3 1, 3) := by decide +kernel
theorem dX11_seeded_47 : decode cX11_seeded 47 = .ok (.goto (-17), 3) := by decide +kernel
theorem dX11_seeded_50 : decode cX11_seeded 50 = .ok (.aload_n 0, 1) := by decide +kernel
theorem dX11_seeded_51 : decode cX11_seeded 51 = .ok (.getfield 49, 3) := by decide +kernel
theorem dX11_seeded_54 : decode cX11_seeded 54 = .ok (.invokevirtual 213, 3) := by decide +kernel
theorem dX11_seeded_57 : decode cX11_seeded 57 = .ok (.ireturn, 1) := by decide +kernel
set_option maxRecDepth 20000 in
theorem ggX11_judge_X11_shelfAt : GoodIn wsX11_judge wsX11_shelfAt := goodIn_r _ [5, 6, 7, 8, 4, 9, 66, 67, 68, 69, 70, 71, 72, 73, 74] (by decide +kernel) (by decide +kernel)
set_option maxRecDepth 20000 in
theorem gX11_judge_X11_shelfAt : GoodIn wsX11_judge (wsV RX11 66 RX11 yX11_shelfAt wsX11_shelfAt) := goodIn_app (goodIn_of _ (by decide +kernel)) ggX11_judge_X11_shelfAt
set_option maxRecDepth 20000 in
theorem ggX11_judge_X9_lacks : GoodIn wsX11_judge wsX9_lacks := goodIn_r _ [14, 15, 75, 76, 77, 78, 79, 80] (by decide +kernel) (by decide +kernel)
set_option maxRecDepth 20000 in
theorem gX11_judge_X9_lacks : GoodIn wsX11_judge (wsV RX11 70 RX9 yX9_lacks wsX9_lacks) := goodIn_app (goodIn_of _ (by decide +kernel)) ggX11_judge_X9_lacks
set_option maxRecDepth 20000 in
theorem ggX11_judge_X11_firstWrong : GoodIn wsX11_judge wsX11_firstWrong := goodIn_r _ [19, 20, 21, 22, 23, 24, 25, 26, 27, 13, 28, 29, 30, 31, 32, 33, 34, 35, 36, 37, 38, 39, 40, 8, 4, 9, 41, 42, 43, 44, 45, 46, 47, 48, 49, 50, 51, 52, 53, 54, 55, 56, 57, 58, 59, 60, 61, 62, 63, 64, 65, 75, 76, 77, 78, 79, 80, 66, 67, 68, 69, 70, 71, 72, 73, 74, 81, 82, 83, 84, 85, 86, 87, 88, 89, 90] (by decide +kernel) (by decide +kernel)
set_option maxRecDepth 20000 in
theorem gX11_judge_X11_firstWrong : GoodIn wsX11_judge (wsV RX11 216 RX11 yX11_firstWrong wsX11_firstWrong) := goodIn_app (goodIn_of _ (by decide +kernel)) ggX11_judge_X11_firstWrong
theorem dX11_judge_0 : decode cX11_judge 0 = .ok (.aload_n 0, 1) := by decide +kernel
theorem dX11_judge_1 : decode cX11_judge 1 = .ok (.iload_n 1, 1) := by decide +kernel
theorem dX11_judge_2 : decode cX11_judge 2 = .ok (.invokevirtual 66, 3) := by decide +kernel
theorem dX11_judge_5 : decode cX11_judge 5 = .ok (.astore_n 2, 1) := by decide +kernel
theorem dX11_judge_6 : decode cX11_judge 6 = .ok (.aload_n 2, 1) := by decide +kernel
theorem dX11_judge_7 : decode cX11_judge 7 = .ok (.ifnonnull 5, 3) := by decide +kernel
theorem dX11_judge_10 : decode cX11_judge 10 = .ok (.iconst (-1), 1) := by decide +kernel
theorem dX11_judge_11 : decode cX11_judge 11 = .ok (.ireturn, 1) := by decide +kernel
theorem dX11_judge_12 : decode cX11_judge 12 = .ok (.aload_n 2, 1) := by decide +kernel
theorem dX11_judge_13 : decode cX11_judge 13 = .ok (.iconst 2, 1) := by decide +kernel
theorem dX11_judge_14 : decode cX11_judge 14 = .ok (.invokevirtual 70, 3) := by decide +kernel
theorem dX11_judge_17 : decode cX11_judge 17 = .ok (.istore_n 3, 1) := by decide +kernel
theorem dX11_judge_18 : decode cX11_judge 18 = .ok (.iload_n 3, 1) := by decide +kernel
theorem dX11_judge_19 : decode cX11_judge 19 = .ok (.ifCond .ne 11, 3) := by decide +kernel
theorem dX11_judge_22 : decode cX11_judge 22 = .ok (.aload_n 0, 1) := by decide +kernel
theorem dX11_judge_23 : decode cX11_judge 23 = .ok (.aload_n 2, 1) := by decide +kernel
theorem dX11_judge_24 : decode cX11_judge 24 = .ok (.invokevirtual 216, 3) := by decide +kernel
theorem dX11_judge_27 : decode cX11_judge 27 = .ok (.goto 4, 3) := by decide +kernel
theorem dX11_judge_30 : decode cX11_judge 30 = .ok (.iload_n 3, 1) := by decide +kernel
theorem dX11_judge_31 : decode cX11_judge 31 = .ok (.ireturn, 1) := by decide +kernel
set_option maxRecDepth 20000 in
theorem ggX11_image_X6_takeAll : GoodIn wsX11_image wsX6_takeAll := goodIn_r _ [8, 9, 10, 11, 12, 13, 14, 15, 16, 17, 18, 19, 20, 21, 22, 52, 53, 54, 55, 56, 57, 58, 59, 60, 61] (by decide +kernel) (by decide +kernel)
set_option maxRecDepth 20000 in
theorem gX11_image_X6_takeAll : GoodIn wsX11_image (wsV RX11 199 RX6 yX6_takeAll wsX6_takeAll) := goodIn_app (goodIn_of _ (by decide +kernel)) ggX11_image_X6_takeAll
set_option maxRecDepth 20000 in
theorem ggX11_image_X6_allIce : GoodIn wsX11_image wsX6_allIce := goodIn_r _ [26, 10, 27, 28, 29, 14, 30, 31, 32, 33, 34, 16, 35, 36, 37, 38, 20, 39, 40, 41, 42, 52, 53, 54, 55, 56, 57, 58, 59, 60, 61] (by decide +kernel) (by decide +kernel)
set_option maxRecDepth 20000 in
theorem gX11_image_X6_allIce : GoodIn wsX11_image (wsV RX11 213 RX6 yX6_allIce wsX6_allIce) := goodIn_app (goodIn_of _ (by decide +kernel)) ggX11_image_X6_allIce
theorem dX11_image_0 : decode cX11_image 0 = .ok (.aload_n 0, 1) := by decide +kernel
theorem dX11_image_1 : decode cX11_image 1 = .ok (.getfield 46, 3) := by decide +kernel
theorem dX11_image_4 : decode cX11_image 4 = .ok (.aload_n 0, 1) := by decide +kernel
theorem dX11_image_5 : decode cX11_image 5 = .ok (.getfield 42, 3) := by decide +kernel
theorem dX11_image_8 : decode cX11_image 8 = .ok (.invokevirtual 199, 3) := by decide +kernel
theorem dX11_image_11 : decode cX11_image 11 = .ok (.aload_n 0, 1) := by decide +kernel
theorem dX11_image_12 : decode cX11_image 12 = .ok (.iconst 1, 1) := by decide +kernel
theorem dX11_image_13 : decode cX11_image 13 = .ok (.putfield 219, 3) := by decide +kernel
theorem dX11_image_16 : decode cX11_image 16 = .ok (.aload_n 0, 1) := by decide +kernel
theorem dX11_image_17 : decode cX11_image 17 = .ok (.getfield 42, 3) := by decide +kernel
theorem dX11_image_20 : decode cX11_image 20 = .ok (.invokevirtual 213, 3) := by decide +kernel
theorem dX11_image_23 : decode cX11_image 23 = .ok (.ireturn, 1) := by decide +kernel
set_option maxRecDepth 20000 in
theorem ggX11_restore_X6_takeAll : GoodIn wsX11_restore wsX6_takeAll := goodIn_r _ [8, 9, 10, 11, 12, 13, 14, 15, 16, 17, 18, 19, 20, 21, 22, 52, 53, 54, 55, 56, 57, 58, 59, 60, 61] (by decide +kernel) (by decide +kernel)
set_option maxRecDepth 20000 in
theorem gX11_restore_X6_takeAll : GoodIn wsX11_restore (wsV RX11 199 RX6 yX6_takeAll wsX6_takeAll) := goodIn_app (goodIn_of _ (by decide +kernel)) ggX11_restore_X6_takeAll
set_option maxRecDepth 20000 in
theorem ggX11_restore_X6_allIce : GoodIn wsX11_restore wsX6_allIce := goodIn_r _ [26, 10, 27, 28, 29, 14, 30, 31, 32, 33, 34, 16, 35, 36, 37, 38, 20, 39, 40, 41, 42, 52, 53, 54, 55, 56, 57, 58, 59, 60, 61] (by decide +kernel) (by decide +kernel)
set_option maxRecDepth 20000 in
theorem gX11_restore_X6_allIce : GoodIn wsX11_restore (wsV RX11 213 RX6 yX6_allIce wsX6_allIce) := goodIn_app (goodIn_of _ (by decide +kernel)) ggX11_restore_X6_allIce
theorem dX11_restore_0 : decode cX11_restore 0 = .ok (.aload_n 0, 1) := by decide +kernel
theorem dX11_restore_1 : decode cX11_restore 1 = .ok (.getfield 219, 3) := by decide +kernel
theorem dX11_restore_4 : decode cX11_restore 4 = .ok (.ifCond .ne 6, 3) := by decide +kernel
theorem dX11_restore_7 : decode cX11_restore 7 = .ok (.bipush (-3), 2) := by decide +kernel
theorem dX11_restore_9 : decode cX11_restore 9 = .ok (.ireturn, 1) := by decide +kernel
theorem dX11_restore_10 : decode cX11_restore 10 = .ok (.aload_n 0, 1) := by decide +kernel
theorem dX11_restore_11 : decode cX11_restore 11 = .ok (.getfield 42, 3) := by decide +kernel
theorem dX11_restore_14 : decode cX11_restore 14 = .ok (.aload_n 0, 1) := by decide +kernel
theorem dX11_restore_15 : decode cX11_restore 15 = .ok (.getfield 46, 3) := by decide +kernel
theorem dX11_restore_18 : decode cX11_restore 18 = .ok (.invokevirtual 199, 3) := by decide +kernel
theorem dX11_restore_21 : decode cX11_restore 21 = .ok (.aload_n 0, 1) := by decide +kernel
theorem dX11_restore_22 : decode cX11_restore 22 = .ok (.getfield 42, 3) := by decide +kernel
theorem dX11_restore_25 : decode cX11_restore 25 = .ok (.invokevirtual 213, 3) := by decide +kernel
theorem dX11_restore_28 : decode cX11_restore 28 = .ok (.ireturn, 1) := by decide +kernel
set_option maxRecDepth 20000 in
theorem ggX11_count_X6_allLayers : GoodIn wsX11_count wsX6_allLayers := goodIn_r _ [6, 7, 70, 71, 72, 73, 74, 75, 76, 77, 78, 79] (by decide +kernel) (by decide +kernel)
set_option maxRecDepth 20000 in
theorem gX11_count_X6_allLayers : GoodIn wsX11_count (wsV RX11 226 RX6 yX6_allLayers wsX6_allLayers) := goodIn_app (goodIn_of _ (by decide +kernel)) ggX11_count_X6_allLayers
set_option maxRecDepth 20000 in
theorem ggX11_count_X6_allIce : GoodIn wsX11_count wsX6_allIce := goodIn_r _ [11, 7, 12, 13, 14, 15, 16, 17, 18, 19, 20, 21, 22, 23, 24, 25, 26, 27, 28, 29, 30, 70, 71, 72, 73, 74, 75, 76, 77, 78, 79] (by decide +kernel) (by decide +kernel)
set_option maxRecDepth 20000 in
theorem gX11_count_X6_allIce : GoodIn wsX11_count (wsV RX11 213 RX6 yX6_allIce wsX6_allIce) := goodIn_app (goodIn_of _ (by decide +kernel)) ggX11_count_X6_allIce
set_option maxRecDepth 20000 in
theorem ggX11_count_X6_allReadable : GoodIn wsX11_count wsX6_allReadable := goodIn_r _ [34, 7, 35, 36, 37, 15, 38, 21, 39, 40, 41, 42, 27, 28, 29, 30, 17, 18, 19, 20, 22, 23, 24, 25, 26, 43, 44, 45, 46, 47, 70, 71, 72, 73, 74, 75, 76, 77, 78, 79] (by decide +kernel) (by decide +kernel)
set_option maxRecDepth 20000 in
theorem gX11_count_X6_allReadable : GoodIn wsX11_count (wsV RX11 229 RX6 yX6_allReadable wsX6_allReadable) := goodIn_app (goodIn_of _ (by decide +kernel)) ggX11_count_X6_allReadable
set_option maxRecDepth 20000 in
theorem ggX11_count_X6_allOaths : GoodIn wsX11_count wsX6_allOaths := goodIn_r _ [51, 7, 52, 53, 54, 15, 55, 21, 56, 57, 58, 59, 60, 27, 28, 29, 30, 70, 71, 72, 73, 74, 75, 76, 77, 78, 79] (by decide +kernel) (by decide +kernel)
set_option maxRecDepth 20000 in
theorem gX11_count_X6_allOaths : GoodIn wsX11_count (wsV RX11 189 RX6 yX6_allOaths wsX6_allOaths) := goodIn_app (goodIn_of _ (by decide +kernel)) ggX11_count_X6_allOaths
theorem dX11_count_0 : decode cX11_count 0 = .ok (.iload_n 1, 1) := by decide +kernel
theorem dX11_count_1 : decode cX11_count 1 = .ok (.tableswitch 75 0 4 #[35, 43, 51, 59, 67], 35) := by decide +kernel
theorem dX11_count_36 : decode cX11_count 36 = .ok (.aload_n 0, 1) := by decide +kernel
theorem dX11_count_37 : decode cX11_count 37 = .ok (.getfield 42, 3) := by decide +kernel
theorem dX11_count_40 : decode cX11_count 40 = .ok (.getfield 223, 3) := by decide +kernel
theorem dX11_count_43 : decode cX11_count 43 = .ok (.ireturn, 1) := by decide +kernel
theorem dX11_count_44 : decode cX11_count 44 = .ok (.aload_n 0, 1) := by decide +kernel
theorem dX11_count_45 : decode cX11_count 45 = .ok (.getfield 42, 3) := by decide +kernel
theorem dX11_count_48 : decode cX11_count 48 = .ok (.invokevirtual 226, 3) := by decide +kernel
theorem dX11_count_51 : decode cX11_count 51 = .ok (.ireturn, 1) := by decide +kernel
theorem dX11_count_52 : decode cX11_count 52 = .ok (.aload_n 0, 1) := by decide +kernel
theorem dX11_count_53 : decode cX11_count 53 = .ok (.getfield 42, 3) := by decide +kernel
theorem dX11_count_56 : decode cX11_count 56 = .ok (.invokevirtual 213, 3) := by decide +kernel
theorem dX11_count_59 : decode cX11_count 59 = .ok (.ireturn, 1) := by decide +kernel
theorem dX11_count_60 : decode cX11_count 60 = .ok (.aload_n 0, 1) := by decide +kernel
theorem dX11_count_61 : decode cX11_count 61 = .ok (.getfield 42, 3) := by decide +kernel
theorem dX11_count_64 : decode cX11_count 64 = .ok (.invokevirtual 229, 3) := by decide +kernel
theorem dX11_count_67 : decode cX11_count 67 = .ok (.ireturn, 1) := by decide +kernel
theorem dX11_count_68 : decode cX11_count 68 = .ok (.aload_n 0, 1) := by decide +kernel
theorem dX11_count_69 : decode cX11_count 69 = .ok (.getfield 42, 3) := by decide +kernel
theorem dX11_count_72 : decode cX11_count 72 = .ok (.invokevirtual 189, 3) := by decide +kernel
theorem dX11_count_75 : decode cX11_count 75 = .ok (.ireturn, 1) := by decide +kernel
theorem dX11_count_76 : decode cX11_count 76 = .ok (.iconst (-1), 1) := by decide +kernel
theorem dX11_count_77 : decode cX11_count 77 = .ok (.ireturn, 1) := by decide +kernel
set_option maxRecDepth 20000 in
theorem ggX11_keep_X11_shelfAt : GoodIn wsX11_keep wsX11_shelfAt := goodIn_r _ [5, 6, 7, 8, 4, 9, 27, 28, 29, 30, 31, 32, 33, 34, 35] (by decide +kernel) (by decide +kernel)
set_option maxRecDepth 20000 in
theorem gX11_keep_X11_shelfAt : GoodIn wsX11_keep (wsV RX11 66 RX11 yX11_shelfAt wsX11_shelfAt) := goodIn_app (goodIn_of _ (by decide +kernel)) ggX11_keep_X11_shelfAt
set_option maxRecDepth 20000 in
theorem ggX11_keep_X11_within : GoodIn wsX11_keep wsX11_within := goodIn_r _ [9] (by decide +kernel) (by decide +kernel)
set_option maxRecDepth 20000 in
theorem gX11_keep_X11_within : GoodIn wsX11_keep (va_wsS RX11 89 yX11_within wsX11_within) := goodIn_app (goodIn_of _ (by decide +kernel)) ggX11_keep_X11_within
set_option maxRecDepth 20000 in
theorem ggX11_keep_X11_isKindAndOath : GoodIn wsX11_keep wsX11_isKindAndOath := goodIn_r _ [12, 7, 8, 4, 9] (by decide +kernel) (by decide +kernel)
set_option maxRecDepth 20000 in
theorem gX11_keep_X11_isKindAndOath : GoodIn wsX11_keep (va_wsS RX11 153 yX11_isKindAndOath wsX11_isKindAndOath) := goodIn_app (goodIn_of _ (by decide +kernel)) ggX11_keep_X11_isKindAndOath
set_option maxRecDepth 20000 in
theorem ggX11_keep_X9_takeLayer : GoodIn wsX11_keep wsX9_takeLayer := goodIn_r _ [17, 18, 19, 20, 21, 22, 23, 24, 25, 26] (by decide +kernel) (by decide +kernel)
set_option maxRecDepth 20000 in
theorem gX11_keep_X9_takeLayer : GoodIn wsX11_keep (wsV RX11 235 RX9 yX9_takeLayer wsX9_takeLayer) := goodIn_app (goodIn_of _ (by decide +kernel)) ggX11_keep_X9_takeLayer
theorem dX11_keep_0 : decode cX11_keep 0 = .ok (.aload_n 0, 1) := by decide +kernel
theorem dX11_keep_1 : decode cX11_keep 1 = .ok (.iload_n 1, 1) := by decide +kernel
theorem dX11_keep_2 : decode cX11_keep 2 = .ok (.invokevirtual 66, 3) := by decide +kernel
theorem dX11_keep_5 : decode cX11_keep 5 = .ok (.astore 5, 2) := by decide +kernel
theorem dX11_keep_7 : decode cX11_keep 7 = .ok (.aload 5, 2) := by decide +kernel
theorem dX11_keep_9 : decode cX11_keep 9 = .ok (.ifnull 26, 3) := by decide +kernel
theorem dX11_keep_12 : decode cX11_keep 12 = .ok (.iload_n 2, 1) := by decide +kernel
theorem dX11_keep_13 : decode cX11_keep 13 = .ok (.iconst 0, 1) := by decide +kernel
theorem dX11_keep_14 : decode cX11_keep 14 = .ok (.iconst 1, 1) := by decide +kernel
theorem dX11_keep_15 : decode cX11_keep 15 = .ok (.invokestatic 89, 3) := by decide +kernel
theorem dX11_keep_18 : decode cX11_keep 18 = .ok (.ifCond .eq 17, 3) := by decide +kernel
theorem dX11_keep_21 : decode cX11_keep 21 = .ok (.iload_n 2, 1) := by decide +kernel
theorem dX11_keep_22 : decode cX11_keep 22 = .ok (.iconst 1, 1) := by decide +kernel
theorem dX11_keep_23 : decode cX11_keep 23 = .ok (.if_icmp .ne 14, 3) := by decide +kernel
theorem dX11_keep_26 : decode cX11_keep 26 = .ok (.iload_n 3, 1) := by decide +kernel
theorem dX11_keep_27 : decode cX11_keep 27 = .ok (.iload 4, 2) := by decide +kernel
theorem dX11_keep_29 : decode cX11_keep 29 = .ok (.invokestatic 153, 3) := by decide +kernel
theorem dX11_keep_32 : decode cX11_keep 32 = .ok (.ifCond .ne 5, 3) := by decide +kernel
theorem dX11_keep_35 : decode cX11_keep 35 = .ok (.iconst (-1), 1) := by decide +kernel
theorem dX11_keep_36 : decode cX11_keep 36 = .ok (.ireturn, 1) := by decide +kernel
theorem dX11_keep_37 : decode cX11_keep 37 = .ok (.iload_n 2, 1) := by decide +kernel
theorem dX11_keep_38 : decode cX11_keep 38 = .ok (.ifCond .ne 12, 3) := by decide +kernel
theorem dX11_keep_41 : decode cX11_keep 41 = .ok (.aload 5, 2) := by decide +kernel
theorem dX11_keep_43 : decode cX11_keep 43 = .ok (.iconst 0, 1) := by decide +kernel
theorem dX11_keep_44 : decode cX11_keep 44 = .ok (.putfield 232, 3) := by decide +kernel
theorem dX11_keep_47 : decode cX11_keep 47 = .ok (.goto 11, 3) := by decide +kernel
theorem dX11_keep_50 : decode cX11_keep 50 = .ok (.aload 5, 2) := by decide +kernel
theorem dX11_keep_52 : decode cX11_keep 52 = .ok (.iload_n 3, 1) := by decide +kernel
theorem dX11_keep_53 : decode cX11_keep 53 = .ok (.iload 4, 2) := by decide +kernel
theorem dX11_keep_55 : decode cX11_keep 55 = .ok (.invokevirtual 235, 3) := by decide +kernel
theorem dX11_keep_58 : decode cX11_keep 58 = .ok (.iconst 0, 1) := by decide +kernel
theorem dX11_keep_59 : decode cX11_keep 59 = .ok (.ireturn, 1) := by decide +kernel
set_option maxRecDepth 20000 in
theorem ggX11_row_X11_shelfAt : GoodIn wsX11_row wsX11_shelfAt := goodIn_r _ [5, 6, 7, 8, 4, 9, 23, 24, 25, 26, 27, 28, 29, 30, 31] (by decide +kernel) (by decide +kernel)
set_option maxRecDepth 20000 in
theorem gX11_row_X11_shelfAt : GoodIn wsX11_row (wsV RX11 66 RX11 yX11_shelfAt wsX11_shelfAt) := goodIn_app (goodIn_of _ (by decide +kernel)) ggX11_row_X11_shelfAt
set_option maxRecDepth 20000 in
theorem ggX11_row_X11_within : GoodIn wsX11_row wsX11_within := goodIn_r _ [9] (by decide +kernel) (by decide +kernel)
set_option maxRecDepth 20000 in
theorem gX11_row_X11_within : GoodIn wsX11_row (va_wsS RX11 89 yX11_within wsX11_within) := goodIn_app (goodIn_of _ (by decide +kernel)) ggX11_row_X11_within
set_option maxRecDepth 20000 in
theorem ggX11_row_X9_takeRow : GoodIn wsX11_row wsX9_takeRow := goodIn_r _ [14, 15, 16, 17, 18, 19, 20, 21, 22, 32, 33, 34, 35, 36, 37] (by decide +kernel) (by decide +kernel)
set_option maxRecDepth 20000 in
theorem gX11_row_X9_takeRow : GoodIn wsX11_row (wsV RX11 239 RX9 yX9_takeRow wsX9_takeRow) := goodIn_app (goodIn_of _ (by decide +kernel)) ggX11_row_X9_takeRow
theorem dX11_row_0 : decode cX11_row 0 = .ok (.aload_n 0, 1) := by decide +kernel
theorem dX11_row_1 : decode cX11_row 1 = .ok (.iload_n 1, 1) := by decide +kernel
theorem dX11_row_2 : decode cX11_row 2 = .ok (.invokevirtual 66, 3) := by decide +kernel
theorem dX11_row_5 : decode cX11_row 5 = .ok (.astore 4, 2) := by decide +kernel
theorem dX11_row_7 : decode cX11_row 7 = .ok (.aload 4, 2) := by decide +kernel
theorem dX11_row_9 : decode cX11_row 9 = .ok (.ifnull 18, 3) := by decide +kernel
theorem dX11_row_12 : decode cX11_row 12 = .ok (.iload_n 2, 1) := by decide +kernel
theorem dX11_row_13 : decode cX11_row 13 = .ok (.iconst 0, 1) := by decide +kernel
theorem dX11_row_14 : decode cX11_row 14 = .ok (.iconst 2, 1) := by decide +kernel
theorem dX11_row_15 : decode cX11_row 15 = .ok (.invokestatic 89, 3) := by decide +kernel
theorem dX11_row_18 : decode cX11_row 18 = .ok (.ifCond .eq 9, 3) := by decide +kernel
theorem dX11_row_21 : decode cX11_row 21 = .ok (.iload_n 3, 1) := by decide +kernel
theorem dX11_row_22 : decode cX11_row 22 = .ok (.bipush 100, 2) := by decide +kernel
theorem dX11_row_24 : decode cX11_row 24 = .ok (.if_icmp .le 5, 3) := by decide +kernel
theorem dX11_row_27 : decode cX11_row 27 = .ok (.iconst (-1), 1) := by decide +kernel
theorem dX11_row_28 : decode cX11_row 28 = .ok (.ireturn, 1) := by decide +kernel
theorem dX11_row_29 : decode cX11_row 29 = .ok (.iload_n 3, 1) := by decide +kernel
theorem dX11_row_30 : decode cX11_row 30 = .ok (.ifCond .ge 6, 3) := by decide +kernel
theorem dX11_row_33 : decode cX11_row 33 = .ok (.bipush (-14), 2) := by decide +kernel
theorem dX11_row_35 : decode cX11_row 35 = .ok (.ireturn, 1) := by decide +kernel
theorem dX11_row_36 : decode cX11_row 36 = .ok (.aload 4, 2) := by decide +kernel
theorem dX11_row_38 : decode cX11_row 38 = .ok (.iload_n 2, 1) := by decide +kernel
theorem dX11_row_39 : decode cX11_row 39 = .ok (.iload_n 3, 1) := by decide +kernel
theorem dX11_row_40 : decode cX11_row 40 = .ok (.invokevirtual 239, 3) := by decide +kernel
theorem dX11_row_43 : decode cX11_row 43 = .ok (.iconst 0, 1) := by decide +kernel
theorem dX11_row_44 : decode cX11_row 44 = .ok (.ireturn, 1) := by decide +kernel
set_option maxRecDepth 20000 in
theorem ggX11_put_X11_shelfAt : GoodIn wsX11_put wsX11_shelfAt := goodIn_r _ [5, 6, 7, 8, 4, 9, 33, 34, 35, 36, 37, 38, 39, 40, 41] (by decide +kernel) (by decide +kernel)
set_option maxRecDepth 20000 in
theorem gX11_put_X11_shelfAt : GoodIn wsX11_put (wsV RX11 66 RX11 yX11_shelfAt wsX11_shelfAt) := goodIn_app (goodIn_of _ (by decide +kernel)) ggX11_put_X11_shelfAt
set_option maxRecDepth 20000 in
theorem ggX11_put_X9_lacks : GoodIn wsX11_put wsX9_lacks := goodIn_r _ [14, 15, 27, 28, 29, 30, 31, 32] (by decide +kernel) (by decide +kernel)
set_option maxRecDepth 20000 in
theorem gX11_put_X9_lacks : GoodIn wsX11_put (wsV RX11 70 RX9 yX9_lacks wsX9_lacks) := goodIn_app (goodIn_of _ (by decide +kernel)) ggX11_put_X9_lacks
set_option maxRecDepth 20000 in
theorem ggX11_put_X9_hasPlace : GoodIn wsX11_put wsX9_hasPlace := goodIn_r _ [19, 20, 21, 27, 28, 29, 30, 31, 32] (by decide +kernel) (by decide +kernel)
set_option maxRecDepth 20000 in
theorem gX11_put_X9_hasPlace : GoodIn wsX11_put (wsV RX11 242 RX9 yX9_hasPlace wsX9_hasPlace) := goodIn_app (goodIn_of _ (by decide +kernel)) ggX11_put_X9_hasPlace
set_option maxRecDepth 20000 in
theorem ggX11_put_X9_lowestBits : GoodIn wsX11_put wsX9_lowestBits := goodIn_r _ [25, 26, 27, 28, 29, 30, 31, 32] (by decide +kernel) (by decide +kernel)
set_option maxRecDepth 20000 in
theorem gX11_put_X9_lowestBits : GoodIn wsX11_put (wsV RX11 248 RX9 yX9_lowestBits wsX9_lowestBits) := goodIn_app (goodIn_of _ (by decide +kernel)) ggX11_put_X9_lowestBits
theorem dX11_put_0 : decode cX11_put 0 = .ok (.aload_n 0, 1) := by decide +kernel
theorem dX11_put_1 : decode cX11_put 1 = .ok (.iload_n 1, 1) := by decide +kernel
theorem dX11_put_2 : decode cX11_put 2 = .ok (.invokevirtual 66, 3) := by decide +kernel
theorem dX11_put_5 : decode cX11_put 5 = .ok (.astore 4, 2) := by decide +kernel
theorem dX11_put_7 : decode cX11_put 7 = .ok (.aload 4, 2) := by decide +kernel
theorem dX11_put_9 : decode cX11_put 9 = .ok (.ifnonnull 5, 3) := by decide +kernel
theorem dX11_put_12 : decode cX11_put 12 = .ok (.iconst (-1), 1) := by decide +kernel
theorem dX11_put_13 : decode cX11_put 13 = .ok (.ireturn, 1) := by decide +kernel
theorem dX11_put_14 : decode cX11_put 14 = .ok (.aload 4, 2) := by decide +kernel
theorem dX11_put_16 : decode cX11_put 16 = .ok (.iconst 2, 1) := by decide +kernel
theorem dX11_put_17 : decode cX11_put 17 = .ok (.invokevirtual 70, 3) := by decide +kernel
theorem dX11_put_20 : decode cX11_put 20 = .ok (.istore 5, 2) := by decide +kernel
theorem dX11_put_22 : decode cX11_put 22 = .ok (.iload 5, 2) := by decide +kernel
theorem dX11_put_24 : decode cX11_put 24 = .ok (.ifCond .eq 6, 3) := by decide +kernel
theorem dX11_put_27 : decode cX11_put 27 = .ok (.iload 5, 2) := by decide +kernel
theorem dX11_put_29 : decode cX11_put 29 = .ok (.ireturn, 1) := by decide +kernel
theorem dX11_put_30 : decode cX11_put 30 = .ok (.aload 4, 2) := by decide +kernel
theorem dX11_put_32 : decode cX11_put 32 = .ok (.iload_n 2, 1) := by decide +kernel
theorem dX11_put_33 : decode cX11_put 33 = .ok (.invokevirtual 242, 3) := by decide +kernel
theorem dX11_put_36 : decode cX11_put 36 = .ok (.ifCond .ne 6, 3) := by decide +kernel
theorem dX11_put_39 : decode cX11_put 39 = .ok (.bipush (-13), 2) := by decide +kernel
theorem dX11_put_41 : decode cX11_put 41 = .ok (.ireturn, 1) := by decide +kernel
theorem dX11_put_42 : decode cX11_put 42 = .ok (.aload 4, 2) := by decide +kernel
theorem dX11_put_44 : decode cX11_put 44 = .ok (.getfield 245, 3) := by decide +kernel
theorem dX11_put_47 : decode cX11_put 47 = .ok (.iload_n 2, 1) := by decide +kernel
theorem dX11_put_48 : decode cX11_put 48 = .ok (.aload 4, 2) := by decide +kernel
theorem dX11_put_50 : decode cX11_put 50 = .ok (.iload_n 3, 1) := by decide +kernel
theorem dX11_put_51 : decode cX11_put 51 = .ok (.invokevirtual 248, 3) := by decide +kernel
theorem dX11_put_54 : decode cX11_put 54 = .ok (.iastore, 1) := by decide +kernel
theorem dX11_put_55 : decode cX11_put 55 = .ok (.iconst 0, 1) := by decide +kernel
theorem dX11_put_56 : decode cX11_put 56 = .ok (.ireturn, 1) := by decide +kernel
set_option maxRecDepth 20000 in
theorem ggX11_element_X11_shelfAt : GoodIn wsX11_element wsX11_shelfAt := goodIn_r _ [9, 10, 11, 12, 8, 13, 32, 33, 34, 35, 36, 37, 38, 39, 40] (by decide +kernel) (by decide +kernel)
set_option maxRecDepth 20000 in
theorem gX11_element_X11_shelfAt : GoodIn wsX11_element (wsV RX11 66 RX11 yX11_shelfAt wsX11_shelfAt) := goodIn_app (goodIn_of _ (by decide +kernel)) ggX11_element_X11_shelfAt
set_option maxRecDepth 20000 in
theorem ggX11_element_X9_lacks : GoodIn wsX11_element wsX9_lacks := goodIn_r _ [18, 19, 26, 27, 28, 29, 30, 31] (by decide +kernel) (by decide +kernel)
set_option maxRecDepth 20000 in
theorem gX11_element_X9_lacks : GoodIn wsX11_element (wsV RX11 70 RX9 yX9_lacks wsX9_lacks) := goodIn_app (goodIn_of _ (by decide +kernel)) ggX11_element_X9_lacks
set_option maxRecDepth 20000 in
theorem ggX11_element_X9_hasPlace : GoodIn wsX11_element wsX9_hasPlace := goodIn_r _ [23, 24, 25, 26, 27, 28, 29, 30, 31] (by decide +kernel) (by decide +kernel)
set_option maxRecDepth 20000 in
theorem gX11_element_X9_hasPlace : GoodIn wsX11_element (wsV RX11 242 RX9 yX9_hasPlace wsX9_hasPlace) := goodIn_app (goodIn_of _ (by decide +kernel)) ggX11_element_X9_hasPlace
theorem dX11_element_0 : decode cX11_element 0 = .ok (.aload_n 0, 1) := by decide +kernel
theorem dX11_element_1 : decode cX11_element 1 = .ok (.iload_n 1, 1) := by decide +kernel
theorem dX11_element_2 : decode cX11_element 2 = .ok (.invokevirtual 66, 3) := by decide +kernel
theorem dX11_element_5 : decode cX11_element 5 = .ok (.astore_n 3, 1) := by decide +kernel
theorem dX11_element_6 : decode cX11_element 6 = .ok (.aload_n 3, 1) := by decide +kernel
theorem dX11_element_7 : decode cX11_element 7 = .ok (.ifnonnull 13, 3) := by decide +kernel
theorem dX11_element_10 : decode cX11_element 10 = .ok (.new 251, 3) := by decide +kernel
theorem dX11_element_13 : decode cX11_element 13 = .ok (.dup, 1) := by decide +kernel
theorem dX11_element_14 : decode cX11_element 14 = .ok (.ldc 253, 2) := by decide +kernel
theorem dX11_element_16 : decode cX11_element 16 = .ok (.invokespecial 255, 3) := by decide +kernel
theorem dX11_element_19 : decode cX11_element 19 = .ok (.athrow, 1) := by decide +kernel
theorem dX11_element_20 : decode cX11_element 20 = .ok (.aload_n 3, 1) := by decide +kernel
theorem dX11_element_21 : decode cX11_element 21 = .ok (.iconst 2, 1) := by decide +kernel
theorem dX11_element_22 : decode cX11_element 22 = .ok (.invokevirtual 70, 3) := by decide +kernel
theorem dX11_element_25 : decode cX11_element 25 = .ok (.ifCond .eq 14, 3) := by decide +kernel
theorem dX11_element_28 : decode cX11_element 28 = .ok (.new 258, 3) := by decide +kernel
theorem dX11_element_31 : decode cX11_element 31 = .ok (.dup, 1) := by decide +kernel
theorem dX11_element_32 : decode cX11_element 32 = .ok (.ldc_w 260, 3) := by decide +kernel
theorem dX11_element_35 : decode cX11_element 35 = .ok (.invokespecial 262, 3) := by decide +kernel
theorem dX11_element_38 : decode cX11_element 38 = .ok (.athrow, 1) := by decide +kernel
theorem dX11_element_39 : decode cX11_element 39 = .ok (.aload_n 3, 1) := by decide +kernel
theorem dX11_element_40 : decode cX11_element 40 = .ok (.iload_n 2, 1) := by decide +kernel
theorem dX11_element_41 : decode cX11_element 41 = .ok (.invokevirtual 242, 3) := by decide +kernel
theorem dX11_element_44 : decode cX11_element 44 = .ok (.ifCond .ne 14, 3) := by decide +kernel
theorem dX11_element_47 : decode cX11_element 47 = .ok (.new 258, 3) := by decide +kernel
theorem dX11_element_50 : decode cX11_element 50 = .ok (.dup, 1) := by decide +kernel
theorem dX11_element_51 : decode cX11_element 51 = .ok (.ldc_w 263, 3) := by decide +kernel
theorem dX11_element_54 : decode cX11_element 54 = .ok (.invokespecial 262, 3) := by decide +kernel
theorem dX11_element_57 : decode cX11_element 57 = .ok (.athrow, 1) := by decide +kernel
theorem dX11_element_58 : decode cX11_element 58 = .ok (.aload_n 3, 1) := by decide +kernel
theorem dX11_element_59 : decode cX11_element 59 = .ok (.getfield 245, 3) := by decide +kernel
theorem dX11_element_62 : decode cX11_element 62 = .ok (.iload_n 2, 1) := by decide +kernel
theorem dX11_element_63 : decode cX11_element 63 = .ok (.iaload, 1) := by decide +kernel
theorem dX11_element_64 : decode cX11_element 64 = .ok (.i2l, 1) := by decide +kernel
theorem dX11_element_65 : decode cX11_element 65 = .ok (.lreturn, 1) := by decide +kernel
set_option maxRecDepth 20000 in
theorem ggX11_copy_X11_shelfAt : GoodIn wsX11_copy wsX11_shelfAt := goodIn_r _ [9, 10, 11, 12, 8, 13, 26, 27, 28, 29, 30, 31, 32, 33, 34] (by decide +kernel) (by decide +kernel)
set_option maxRecDepth 20000 in
theorem gX11_copy_X11_shelfAt : GoodIn wsX11_copy (wsV RX11 66 RX11 yX11_shelfAt wsX11_shelfAt) := goodIn_app (goodIn_of _ (by decide +kernel)) ggX11_copy_X11_shelfAt
set_option maxRecDepth 20000 in
theorem ggX11_copy_X9_hasStretch : GoodIn wsX11_copy wsX9_hasStretch := goodIn_r _ [18, 19, 20, 21, 22, 23, 24, 25] (by decide +kernel) (by decide +kernel)
set_option maxRecDepth 20000 in
theorem gX11_copy_X9_hasStretch : GoodIn wsX11_copy (wsV RX11 265 RX9 yX9_hasStretch wsX9_hasStretch) := goodIn_app (goodIn_of _ (by decide +kernel)) ggX11_copy_X9_hasStretch
theorem dX11_copy_0 : decode cX11_copy 0 = .ok (.aload_n 0, 1) := by decide +kernel
theorem dX11_copy_1 : decode cX11_copy 1 = .ok (.iload_n 1, 1) := by decide +kernel
theorem dX11_copy_2 : decode cX11_copy 2 = .ok (.invokevirtual 66, 3) := by decide +kernel
theorem dX11_copy_5 : decode cX11_copy 5 = .ok (.astore 6, 2) := by decide +kernel
theorem dX11_copy_7 : decode cX11_copy 7 = .ok (.aload_n 0, 1) := by decide +kernel
theorem dX11_copy_8 : decode cX11_copy 8 = .ok (.iload_n 3, 1) := by decide +kernel
theorem dX11_copy_9 : decode cX11_copy 9 = .ok (.invokevirtual 66, 3) := by decide +kernel
theorem dX11_copy_12 : decode cX11_copy 12 = .ok (.astore 7, 2) := by decide +kernel
theorem dX11_copy_14 : decode cX11_copy 14 = .ok (.aload 6, 2) := by decide +kernel
theorem dX11_copy_16 : decode cX11_copy 16 = .ok (.ifnull 8, 3) := by decide +kernel
theorem dX11_copy_19 : decode cX11_copy 19 = .ok (.aload 7, 2) := by decide +kernel
theorem dX11_copy_21 : decode cX11_copy 21 = .ok (.ifnonnull 5, 3) := by decide +kernel
theorem dX11_copy_24 : decode cX11_copy 24 = .ok (.iconst (-1), 1) := by decide +kernel
theorem dX11_copy_25 : decode cX11_copy 25 = .ok (.ireturn, 1) := by decide +kernel
theorem dX11_copy_26 : decode cX11_copy 26 = .ok (.aload 6, 2) := by decide +kernel
theorem dX11_copy_28 : decode cX11_copy 28 = .ok (.getfield 232, 3) := by decide +kernel
theorem dX11_copy_31 : decode cX11_copy 31 = .ok (.ifCond .eq 11, 3) := by decide +kernel
theorem dX11_copy_34 : decode cX11_copy 34 = .ok (.aload 7, 2) := by decide +kernel
theorem dX11_copy_36 : decode cX11_copy 36 = .ok (.getfield 232, 3) := by decide +kernel
theorem dX11_copy_39 : decode cX11_copy 39 = .ok (.ifCond .ne 6, 3) := by decide +kernel
theorem dX11_copy_42 : decode cX11_copy 42 = .ok (.bipush (-11), 2) := by decide +kernel
theorem dX11_copy_44 : decode cX11_copy 44 = .ok (.ireturn, 1) := by decide +kernel
theorem dX11_copy_45 : decode cX11_copy 45 = .ok (.aload 6, 2) := by decide +kernel
theorem dX11_copy_47 : decode cX11_copy 47 = .ok (.getfield 232, 3) := by decide +kernel
theorem dX11_copy_50 : decode cX11_copy 50 = .ok (.iconst 2, 1) := by decide +kernel
theorem dX11_copy_51 : decode cX11_copy 51 = .ok (.if_icmp .ne 25, 3) := by decide +kernel
theorem dX11_copy_54 : decode cX11_copy 54 = .ok (.aload 7, 2) := by decide +kernel
theorem dX11_copy_56 : decode cX11_copy 56 = .ok (.getfield 232, 3) := by decide +kernel
theorem dX11_copy_59 : decode cX11_copy 59 = .ok (.iconst 2, 1) := by decide +kernel
theorem dX11_copy_60 : decode cX11_copy 60 = .ok (.if_icmp .ne 16, 3) := by decide +kernel
theorem dX11_copy_63 : decode cX11_copy 63 = .ok (.aload 6, 2) := by decide +kernel
theorem dX11_copy_65 : decode cX11_copy 65 = .ok (.getfield 74, 3) := by decide +kernel
theorem dX11_copy_68 : decode cX11_copy 68 = .ok (.aload 7, 2) := by decide +kernel
theorem dX11_copy_70 : decode cX11_copy 70 = .ok (.getfield 74, 3) := by decide +kernel
theorem dX11_copy_73 : decode cX11_copy 73 = .ok (.if_icmp .eq 6, 3) := by decide +kernel
theorem dX11_copy_76 : decode cX11_copy 76 = .ok (.bipush (-12), 2) := by decide +kernel
theorem dX11_copy_78 : decode cX11_copy 78 = .ok (.ireturn, 1) := by decide +kernel
theorem dX11_copy_79 : decode cX11_copy 79 = .ok (.aload 6, 2) := by decide +kernel
theorem dX11_copy_81 : decode cX11_copy 81 = .ok (.iload_n 2, 1) := by decide +kernel
theorem dX11_copy_82 : decode cX11_copy 82 = .ok (.iload 5, 2) := by decide +kernel
theorem dX11_copy_84 : decode cX11_copy 84 = .ok (.invokevirtual 265, 3) := by decide +kernel
theorem dX11_copy_87 : decode cX11_copy 87 = .ok (.ifCond .eq 15, 3) := by decide +kernel
theorem dX11_copy_90 : decode cX11_copy 90 = .ok (.aload 7, 2) := by decide +kernel
theorem dX11_copy_92 : decode cX11_copy 92 = .ok (.iload 4, 2) := by decide +kernel
theorem dX11_copy_94 : decode cX11_copy 94 = .ok (.iload 5, 2) := by decide +kernel
theorem dX11_copy_96 : decode cX11_copy 96 = .ok (.invokevirtual 265, 3) := by decide +kernel
theorem dX11_copy_99 : decode cX11_copy 99 = .ok (.ifCond .ne 6, 3) := by decide +kernel
theorem dX11_copy_102 : decode cX11_copy 102 = .ok (.bipush (-13), 2) := by decide +kernel
theorem dX11_copy_104 : decode cX11_copy 104 = .ok (.ireturn, 1) := by decide +kernel
theorem dX11_copy_105 : decode cX11_copy 105 = .ok (.aload 6, 2) := by decide +kernel
theorem dX11_copy_107 : decode cX11_copy 107 = .ok (.getfield 245, 3) := by decide +kernel
theorem dX11_copy_110 : decode cX11_copy 110 = .ok (.iload_n 2, 1) := by decide +kernel
theorem dX11_copy_111 : decode cX11_copy 111 = .ok (.aload 7, 2) := by decide +kernel
theorem dX11_copy_113 : decode cX11_copy 113 = .ok (.getfield 245, 3) := by decide +kernel
theorem dX11_copy_116 : decode cX11_copy 116 = .ok (.iload 4, 2) := by decide +kernel
theorem dX11_copy_118 : decode cX11_copy 118 = .ok (.iload 5, 2) := by decide +kernel
theorem dX11_copy_120 : decode cX11_copy 120 = .ok (.invokestatic 268, 3) := by decide +kernel
theorem dX11_copy_123 : decode cX11_copy 123 = .ok (.iload 5, 2) := by decide +kernel
theorem dX11_copy_125 : decode cX11_copy 125 = .ok (.ireturn, 1) := by decide +kernel
set_option maxRecDepth 20000 in
theorem ggX11_toll_X11_shelfAt : GoodIn wsX11_toll wsX11_shelfAt := goodIn_r _ [6, 7, 8, 9, 5, 10, 72, 73, 74, 75, 76, 77, 78, 79, 80] (by decide +kernel) (by decide +kernel)
set_option maxRecDepth 20000 in
theorem gX11_toll_X11_shelfAt : GoodIn wsX11_toll (wsV RX11 66 RX11 yX11_shelfAt wsX11_shelfAt) := goodIn_app (goodIn_of _ (by decide +kernel)) ggX11_toll_X11_shelfAt
set_option maxRecDepth 20000 in
theorem ggX11_toll_X9_lacks : GoodIn wsX11_toll wsX9_lacks := goodIn_r _ [15, 16, 81, 82, 83, 84, 85, 86] (by decide +kernel) (by decide +kernel)
set_option maxRecDepth 20000 in
theorem gX11_toll_X9_lacks : GoodIn wsX11_toll (wsV RX11 70 RX9 yX9_lacks wsX9_lacks) := goodIn_app (goodIn_of _ (by decide +kernel)) ggX11_toll_X9_lacks
set_option maxRecDepth 20000 in
theorem ggX11_toll_X11_kindOf : GoodIn wsX11_toll wsX11_kindOf := goodIn_r _ [19, 8, 9, 5, 10] (by decide +kernel) (by decide +kernel)
set_option maxRecDepth 20000 in
theorem gX11_toll_X11_kindOf : GoodIn wsX11_toll (va_wsS RX11 157 yX11_kindOf wsX11_kindOf) := goodIn_app (goodIn_of _ (by decide +kernel)) ggX11_toll_X11_kindOf
set_option maxRecDepth 20000 in
theorem ggX11_toll_X0_tollWith : GoodIn wsX11_toll wsX0_tollWith := goodIn_r _ [26, 27, 28, 29, 30, 31, 32, 33, 21, 34, 35, 36, 37] (by decide +kernel) (by decide +kernel)
set_option maxRecDepth 20000 in
theorem gX11_toll_X0_tollWith_u274X0 : GoodIn wsX11_toll (va_wsO RX11 274 RX0 "SaidInWinter$Layer" ⟨"SaidInWinter$Layer", "tollWith", "(I)I"⟩ yX0_tollWith wsX0_tollWith) := goodIn_app (goodIn_of _ (by decide +kernel)) ggX11_toll_X0_tollWith
set_option maxRecDepth 20000 in
theorem ggX11_toll_X1_tollWith : GoodIn wsX11_toll wsX1_tollWith := goodIn_r _ [41, 42, 28, 43, 30, 31, 32, 33, 21, 34, 35, 36, 37] (by decide +kernel) (by decide +kernel)
set_option maxRecDepth 20000 in
theorem gX11_toll_X1_tollWith_u274X1 : GoodIn wsX11_toll (va_wsO RX11 274 RX1 "SaidInWinter$Layer" ⟨"SaidInWinter$Layer", "tollWith", "(I)I"⟩ yX1_tollWith wsX1_tollWith) := goodIn_app (goodIn_of _ (by decide +kernel)) ggX11_toll_X1_tollWith
set_option maxRecDepth 20000 in
theorem ggX11_toll_X3_tollWith : GoodIn wsX11_toll wsX3_tollWith := goodIn_r _ [32, 33, 21, 34, 35, 36, 37] (by decide +kernel) (by decide +kernel)
set_option maxRecDepth 20000 in
theorem gX11_toll_X3_tollWith_u274X3 : GoodIn wsX11_toll (va_wsO RX11 274 RX3 "SaidInWinter$Layer" ⟨"SaidInWinter$Layer", "tollWith", "(I)I"⟩ yX3_tollWith wsX3_tollWith) := goodIn_app (goodIn_of _ (by decide +kernel)) ggX11_toll_X3_tollWith
set_option maxRecDepth 20000 in
theorem ggX11_toll_X4_tollWith : GoodIn wsX11_toll wsX4_tollWith := goodIn_r _ [48, 49, 50, 51, 52, 53, 54, 55, 21, 56, 35, 36, 37] (by decide +kernel) (by decide +kernel)
set_option maxRecDepth 20000 in
theorem gX11_toll_X4_tollWith_u274X4 : GoodIn wsX11_toll (va_wsO RX11 274 RX4 "SaidInWinter$Layer" ⟨"SaidInWinter$Layer", "tollWith", "(I)I"⟩ yX4_tollWith wsX4_tollWith) := goodIn_app (goodIn_of _ (by decide +kernel)) ggX11_toll_X4_tollWith
set_option maxRecDepth 20000 in
theorem ggX11_toll_X5_tollWith : GoodIn wsX11_toll wsX5_tollWith := goodIn_r _ [60, 61, 21, 62, 35, 36, 37] (by decide +kernel) (by decide +kernel)
set_option maxRecDepth 20000 in
theorem gX11_toll_X5_tollWith_u274X5 : GoodIn wsX11_toll (va_wsO RX11 274 RX5 "SaidInWinter$Layer" ⟨"SaidInWinter$Layer", "tollWith", "(I)I"⟩ yX5_tollWith wsX5_tollWith) := goodIn_app (goodIn_of _ (by decide +kernel)) ggX11_toll_X5_tollWith
set_option maxRecDepth 20000 in
theorem ggX11_toll_X7_tollWith : GoodIn wsX11_toll wsX7_tollWith := goodIn_r _ [37] (by decide +kernel) (by decide +kernel)
set_option maxRecDepth 20000 in
theorem gX11_toll_X7_tollWith : GoodIn wsX11_toll (wsV RX11 274 RX7 yX7_tollWith wsX7_tollWith) := goodIn_app (goodIn_of _ (by decide +kernel)) ggX11_toll_X7_tollWith
set_option maxRecDepth 20000 in
theorem ggX11_toll_X8_tollWith : GoodIn wsX11_toll wsX8_tollWith := goodIn_r _ [68, 69, 50, 70, 52, 53, 54, 55, 21, 56, 35, 36, 37] (by decide +kernel) (by decide +kernel)
set_option maxRecDepth 20000 in
theorem gX11_toll_X8_tollWith_u274X8 : GoodIn wsX11_toll (va_wsO RX11 274 RX8 "SaidInWinter$Layer" ⟨"SaidInWinter$Layer", "tollWith", "(I)I"⟩ yX8_tollWith wsX8_tollWith) := goodIn_app (goodIn_of _ (by decide +kernel)) ggX11_toll_X8_tollWith
set_option maxRecDepth 20000 in
theorem ggX11_toll_X10_tollWith : GoodIn wsX11_toll wsX10_tollWith := goodIn_r _ [54, 55, 21, 56, 35, 36, 37] (by decide +kernel) (by decide +kernel)
set_option maxRecDepth 20000 in
theorem gX11_toll_X10_tollWith_u274X10 : GoodIn wsX11_toll (va_wsO RX11 274 RX10 "SaidInWinter$Layer" ⟨"SaidInWinter$Layer", "tollWith", "(I)I"⟩ yX10_tollWith wsX10_tollWith) := goodIn_app (goodIn_of _ (by decide +kernel)) ggX11_toll_X10_tollWith
theorem dX11_toll_0 : decode cX11_toll 0 = .ok (.aload_n 0, 1) := by decide +kernel
theorem dX11_toll_1 : decode cX11_toll 1 = .ok (.iload_n 1, 1) := by decide +kernel
theorem dX11_toll_2 : decode cX11_toll 2 = .ok (.invokevirtual 66, 3) := by decide +kernel
theorem dX11_toll_5 : decode cX11_toll 5 = .ok (.astore_n 2, 1) := by decide +kernel
theorem dX11_toll_6 : decode cX11_toll 6 = .ok (.aload_n 2, 1) := by decide +kernel
theorem dX11_toll_7 : decode cX11_toll 7 = .ok (.ifnonnull 5, 3) := by decide +kernel
theorem dX11_toll_10 : decode cX11_toll 10 = .ok (.iconst (-1), 1) := by decide +kernel
theorem dX11_toll_11 : decode cX11_toll 11 = .ok (.ireturn, 1) := by decide +kernel
theorem dX11_toll_12 : decode cX11_toll 12 = .ok (.aload_n 2, 1) := by decide +kernel
theorem dX11_toll_13 : decode cX11_toll 13 = .ok (.iconst 1, 1) := by decide +kernel
theorem dX11_toll_14 : decode cX11_toll 14 = .ok (.invokevirtual 70, 3) := by decide +kernel
theorem dX11_toll_17 : decode cX11_toll 17 = .ok (.istore_n 3, 1) := by decide +kernel
theorem dX11_toll_18 : decode cX11_toll 18 = .ok (.iload_n 3, 1) := by decide +kernel
theorem dX11_toll_19 : decode cX11_toll 19 = .ok (.ifCond .ne 24, 3) := by decide +kernel
theorem dX11_toll_22 : decode cX11_toll 22 = .ok (.aload_n 0, 1) := by decide +kernel
theorem dX11_toll_23 : decode cX11_toll 23 = .ok (.getfield 31, 3) := by decide +kernel
theorem dX11_toll_26 : decode cX11_toll 26 = .ok (.aload_n 2, 1) := by decide +kernel
theorem dX11_toll_27 : decode cX11_toll 27 = .ok (.getfield 93, 3) := by decide +kernel
theorem dX11_toll_30 : decode cX11_toll 30 = .ok (.invokestatic 157, 3) := by decide +kernel
theorem dX11_toll_33 : decode cX11_toll 33 = .ok (.aload_n 2, 1) := by decide +kernel
theorem dX11_toll_34 : decode cX11_toll 34 = .ok (.getfield 96, 3) := by decide +kernel
theorem dX11_toll_37 : decode cX11_toll 37 = .ok (.invokevirtual 274, 3) := by decide +kernel
theorem dX11_toll_40 : decode cX11_toll 40 = .ok (.goto 4, 3) := by decide +kernel
theorem dX11_toll_43 : decode cX11_toll 43 = .ok (.iload_n 3, 1) := by decide +kernel
theorem dX11_toll_44 : decode cX11_toll 44 = .ok (.ireturn, 1) := by decide +kernel
set_option maxRecDepth 20000 in
theorem ggX11_toss_X11_shelfAt : GoodIn wsX11_toss wsX11_shelfAt := goodIn_r _ [6, 7, 8, 9, 5, 10, 104, 105, 106, 107, 108, 109, 110, 111, 112] (by decide +kernel) (by decide +kernel)
set_option maxRecDepth 20000 in
theorem gX11_toss_X11_shelfAt : GoodIn wsX11_toss (wsV RX11 66 RX11 yX11_shelfAt wsX11_shelfAt) := goodIn_app (goodIn_of _ (by decide +kernel)) ggX11_toss_X11_shelfAt
set_option maxRecDepth 20000 in
theorem ggX11_toss_X9_lacks : GoodIn wsX11_toss wsX9_lacks := goodIn_r _ [15, 16, 113, 114, 115, 116, 117, 118] (by decide +kernel) (by decide +kernel)
set_option maxRecDepth 20000 in
theorem gX11_toss_X9_lacks : GoodIn wsX11_toss (wsV RX11 70 RX9 yX9_lacks wsX9_lacks) := goodIn_app (goodIn_of _ (by decide +kernel)) ggX11_toss_X9_lacks
set_option maxRecDepth 20000 in
theorem ggX11_toss_X11_kindOf : GoodIn wsX11_toss wsX11_kindOf := goodIn_r _ [19, 8, 9, 5, 10] (by decide +kernel) (by decide +kernel)
set_option maxRecDepth 20000 in
theorem gX11_toss_X11_kindOf : GoodIn wsX11_toss (va_wsS RX11 157 yX11_kindOf wsX11_kindOf) := goodIn_app (goodIn_of _ (by decide +kernel)) ggX11_toss_X11_kindOf
set_option maxRecDepth 20000 in
theorem ggX11_toss_X11_caughtFailure : GoodIn wsX11_toss wsX11_caughtFailure := goodIn_ca (goodIn_ca (goodIn_ca (goodIn_r _ [22, 23, 24, 25, 26, 27, 28, 29, 30, 31, 32, 33, 34, 35, 36, 37, 38, 39, 40, 41, 42, 43, 44, 45, 46, 47, 48, 49, 50, 51, 52, 53, 54, 55, 56, 57, 58, 59, 60, 61, 62, 63, 64, 65, 66, 67, 68, 69, 70, 71, 72, 73, 74, 75, 76, 77, 78, 79, 80, 81, 82, 83, 84, 85, 86, 87, 88, 89, 90, 91, 92, 93, 94, 95, 96, 97, 98, 99, 100, 101, 102, 103] (by decide +kernel) (by decide +kernel)) (goodIn_sub (fun _ h => List.mem_cons_of_mem _ (List.mem_append_left _ (List.mem_append_left _ (List.mem_append_right _ h)))) (by decide +kernel))) (goodIn_sub (fun _ h => List.mem_cons_of_mem _ (List.mem_append_left _ (List.mem_append_right _ h))) (by decide +kernel))) (goodIn_sub (fun _ h => List.mem_cons_of_mem _ (List.mem_append_right _ h)) (by decide +kernel))
set_option maxRecDepth 20000 in
theorem gX11_toss_X11_caughtFailure : GoodIn wsX11_toss (va_wsS RX11 277 yX11_caughtFailure wsX11_caughtFailure) := goodIn_app (goodIn_of _ (by decide +kernel)) ggX11_toss_X11_caughtFailure
theorem dX11_toss_0 : decode cX11_toss 0 = .ok (.aload_n 0, 1) := by decide +kernel
theorem dX11_toss_1 : decode cX11_toss 1 = .ok (.iload_n 1, 1) := by decide +kernel
theorem dX11_toss_2 : decode cX11_toss 2 = .ok (.invokevirtual 66, 3) := by decide +kernel
theorem dX11_toss_5 : decode cX11_toss 5 = .ok (.astore_n 2, 1) := by decide +kernel
theorem dX11_toss_6 : decode cX11_toss 6 = .ok (.aload_n 2, 1) := by decide +kernel
theorem dX11_toss_7 : decode cX11_toss 7 = .ok (.ifnonnull 5, 3) := by decide +kernel
theorem dX11_toss_10 : decode cX11_toss 10 = .ok (.iconst (-1), 1) := by decide +kernel
theorem dX11_toss_11 : decode cX11_toss 11 = .ok (.ireturn, 1) := by decide +kernel
theorem dX11_toss_12 : decode cX11_toss 12 = .ok (.aload_n 2, 1) := by decide +kernel
theorem dX11_toss_13 : decode cX11_toss 13 = .ok (.iconst 1, 1) := by decide +kernel
theorem dX11_toss_14 : decode cX11_toss 14 = .ok (.invokevirtual 70, 3) := by decide +kernel
theorem dX11_toss_17 : decode cX11_toss 17 = .ok (.istore_n 3, 1) := by decide +kernel
theorem dX11_toss_18 : decode cX11_toss 18 = .ok (.iload_n 3, 1) := by decide +kernel
theorem dX11_toss_19 : decode cX11_toss 19 = .ok (.ifCond .ne 24, 3) := by decide +kernel
theorem dX11_toss_22 : decode cX11_toss 22 = .ok (.aload_n 0, 1) := by decide +kernel
theorem dX11_toss_23 : decode cX11_toss 23 = .ok (.getfield 31, 3) := by decide +kernel
theorem dX11_toss_26 : decode cX11_toss 26 = .ok (.aload_n 2, 1) := by decide +kernel
theorem dX11_toss_27 : decode cX11_toss 27 = .ok (.getfield 93, 3) := by decide +kernel
theorem dX11_toss_30 : decode cX11_toss 30 = .ok (.invokestatic 157, 3) := by decide +kernel
theorem dX11_toss_33 : decode cX11_toss 33 = .ok (.aload_n 2, 1) := by decide +kernel
theorem dX11_toss_34 : decode cX11_toss 34 = .ok (.getfield 96, 3) := by decide +kernel
theorem dX11_toss_37 : decode cX11_toss 37 = .ok (.invokestatic 277, 3) := by decide +kernel
theorem dX11_toss_40 : decode cX11_toss 40 = .ok (.goto 4, 3) := by decide +kernel
theorem dX11_toss_43 : decode cX11_toss 43 = .ok (.iload_n 3, 1) := by decide +kernel
theorem dX11_toss_44 : decode cX11_toss 44 = .ok (.ireturn, 1) := by decide +kernel
theorem dX11_within_0 : decode cX11_within 0 = .ok (.iload_n 0, 1) := by decide +kernel
theorem dX11_within_1 : decode cX11_within 1 = .ok (.iload_n 1, 1) := by decide +kernel
theorem dX11_within_2 : decode cX11_within 2 = .ok (.if_icmp .lt 12, 3) := by decide +kernel
theorem dX11_within_5 : decode cX11_within 5 = .ok (.iload_n 0, 1) := by decide +kernel
theorem dX11_within_6 : decode cX11_within 6 = .ok (.iload_n 2, 1) := by decide +kernel
theorem dX11_within_7 : decode cX11_within 7 = .ok (.if_icmp .gt 7, 3) := by decide +kernel
theorem dX11_within_10 : decode cX11_within 10 = .ok (.iconst 1, 1) := by decide +kernel
theorem dX11_within_11 : decode cX11_within 11 = .ok (.goto 4, 3) := by decide +kernel
theorem dX11_within_14 : decode cX11_within 14 = .ok (.iconst 0, 1) := by decide +kernel
theorem dX11_within_15 : decode cX11_within 15 = .ok (.ireturn, 1) := by decide +kernel
set_option maxRecDepth 20000 in
theorem ggX11_isKindAndOath_X11_within : GoodIn wsX11_isKindAndOath wsX11_within := goodIn_r _ [4] (by decide +kernel) (by decide +kernel)
set_option maxRecDepth 20000 in
theorem gX11_isKindAndOath_X11_within : GoodIn wsX11_isKindAndOath (va_wsS RX11 89 yX11_within wsX11_within) := goodIn_app (goodIn_of _ (by decide +kernel)) ggX11_isKindAndOath_X11_within
theorem dX11_isKindAndOath_0 : decode cX11_isKindAndOath 0 = .ok (.iload_n 0, 1) := by decide +kernel
theorem dX11_isKindAndOath_1 : decode cX11_isKindAndOath 1 = .ok (.iconst 0, 1) := by decide +kernel
theorem dX11_isKindAndOath_2 : decode cX11_isKindAndOath 2 = .ok (.bipush 7, 2) := by decide +kernel
theorem dX11_isKindAndOath_4 : decode cX11_isKindAndOath 4 = .ok (.invokestatic 89, 3) := by decide +kernel
theorem dX11_isKindAndOath_7 : decode cX11_isKindAndOath 7 = .ok (.ifCond .eq 17, 3) := by decide +kernel
theorem dX11_isKindAndOath_10 : decode cX11_isKindAndOath 10 = .ok (.iload_n 1, 1) := by decide +kernel
theorem dX11_isKindAndOath_11 : decode cX11_isKindAndOath 11 = .ok (.iconst 0, 1) := by decide +kernel
theorem dX11_isKindAndOath_12 : decode cX11_isKindAndOath 12 = .ok (.bipush 9, 2) := by decide +kernel
theorem dX11_isKindAndOath_14 : decode cX11_isKindAndOath 14 = .ok (.invokestatic 89, 3) := by decide +kernel
theorem dX11_isKindAndOath_17 : decode cX11_isKindAndOath 17 = .ok (.ifCond .eq 7, 3) := by decide +kernel
theorem dX11_isKindAndOath_20 : decode cX11_isKindAndOath 20 = .ok (.iconst 1, 1) := by decide +kernel
theorem dX11_isKindAndOath_21 : decode cX11_isKindAndOath 21 = .ok (.goto 4, 3) := by decide +kernel
theorem dX11_isKindAndOath_24 : decode cX11_isKindAndOath 24 = .ok (.iconst 0, 1) := by decide +kernel
theorem dX11_isKindAndOath_25 : decode cX11_isKindAndOath 25 = .ok (.ireturn, 1) := by decide +kernel
set_option maxRecDepth 20000 in
theorem ggX11_kindOf_X11_within : GoodIn wsX11_kindOf wsX11_within := goodIn_r _ [4] (by decide +kernel) (by decide +kernel)
set_option maxRecDepth 20000 in
theorem gX11_kindOf_X11_within : GoodIn wsX11_kindOf (va_wsS RX11 89 yX11_within wsX11_within) := goodIn_app (goodIn_of _ (by decide +kernel)) ggX11_kindOf_X11_within
theorem dX11_kindOf_0 : decode cX11_kindOf 0 = .ok (.iload_n 1, 1) := by decide +kernel
theorem dX11_kindOf_1 : decode cX11_kindOf 1 = .ok (.iconst 0, 1) := by decide +kernel
theorem dX11_kindOf_2 : decode cX11_kindOf 2 = .ok (.aload_n 0, 1) := by decide +kernel
theorem dX11_kindOf_3 : decode cX11_kindOf 3 = .ok (.arraylength, 1) := by decide +kernel
theorem dX11_kindOf_4 : decode cX11_kindOf 4 = .ok (.iconst 1, 1) := by decide +kernel
theorem dX11_kindOf_5 : decode cX11_kindOf 5 = .ok (.isub, 1) := by decide +kernel
theorem dX11_kindOf_6 : decode cX11_kindOf 6 = .ok (.invokestatic 89, 3) := by decide +kernel
theorem dX11_kindOf_9 : decode cX11_kindOf 9 = .ok (.ifCond .eq 9, 3) := by decide +kernel
theorem dX11_kindOf_12 : decode cX11_kindOf 12 = .ok (.aload_n 0, 1) := by decide +kernel
theorem dX11_kindOf_13 : decode cX11_kindOf 13 = .ok (.iload_n 1, 1) := by decide +kernel
theorem dX11_kindOf_14 : decode cX11_kindOf 14 = .ok (.aaload, 1) := by decide +kernel
theorem dX11_kindOf_15 : decode cX11_kindOf 15 = .ok (.goto 6, 3) := by decide +kernel
theorem dX11_kindOf_18 : decode cX11_kindOf 18 = .ok (.aload_n 0, 1) := by decide +kernel
theorem dX11_kindOf_19 : decode cX11_kindOf 19 = .ok (.iconst 0, 1) := by decide +kernel
theorem dX11_kindOf_20 : decode cX11_kindOf 20 = .ok (.aaload, 1) := by decide +kernel
theorem dX11_kindOf_21 : decode cX11_kindOf 21 = .ok (.areturn, 1) := by decide +kernel
set_option maxRecDepth 20000 in
theorem ggX11_shelfAt_X11_within : GoodIn wsX11_shelfAt wsX11_within := goodIn_r _ [5] (by decide +kernel) (by decide +kernel)
set_option maxRecDepth 20000 in
theorem gX11_shelfAt_X11_within : GoodIn wsX11_shelfAt (va_wsS RX11 89 yX11_within wsX11_within) := goodIn_app (goodIn_of _ (by decide +kernel)) ggX11_shelfAt_X11_within
theorem dX11_shelfAt_0 : decode cX11_shelfAt 0 = .ok (.iload_n 1, 1) := by decide +kernel
theorem dX11_shelfAt_1 : decode cX11_shelfAt 1 = .ok (.iconst 0, 1) := by decide +kernel
theorem dX11_shelfAt_2 : decode cX11_shelfAt 2 = .ok (.bipush 7, 2) := by decide +kernel
theorem dX11_shelfAt_4 : decode cX11_shelfAt 4 = .ok (.invokestatic 89, 3) := by decide +kernel
theorem dX11_shelfAt_7 : decode cX11_shelfAt 7 = .ok (.ifCond .eq 12, 3) := by decide +kernel
theorem dX11_shelfAt_10 : decode cX11_shelfAt 10 = .ok (.aload_n 0, 1) := by decide +kernel
theorem dX11_shelfAt_11 : decode cX11_shelfAt 11 = .ok (.getfield 54, 3) := by decide +kernel
theorem dX11_shelfAt_14 : decode cX11_shelfAt 14 = .ok (.iload_n 1, 1) := by decide +kernel
theorem dX11_shelfAt_15 : decode cX11_shelfAt 15 = .ok (.aaload, 1) := by decide +kernel
theorem dX11_shelfAt_16 : decode cX11_shelfAt 16 = .ok (.goto 4, 3) := by decide +kernel
theorem dX11_shelfAt_19 : decode cX11_shelfAt 19 = .ok (.aconst_null, 1) := by decide +kernel
theorem dX11_shelfAt_20 : decode cX11_shelfAt 20 = .ok (.areturn, 1) := by decide +kernel
set_option maxRecDepth 20000 in
theorem ggX11_firstBadByte_X9_valueAt : GoodIn wsX11_firstBadByte wsX9_valueAt := goodIn_r _ [5, 6, 7, 8, 9, 4, 10, 11, 23, 24, 25, 26, 27, 28] (by decide +kernel) (by decide +kernel)
set_option maxRecDepth 20000 in
theorem gX11_firstBadByte_X9_valueAt : GoodIn wsX11_firstBadByte (wsV RX11 281 RX9 yX9_valueAt wsX9_valueAt) := goodIn_app (goodIn_of _ (by decide +kernel)) ggX11_firstBadByte_X9_valueAt
set_option maxRecDepth 20000 in
theorem ggX11_firstBadByte_X11_statementLength : GoodIn wsX11_firstBadByte wsX11_statementLength := goodIn_r _ [15] (by decide +kernel) (by decide +kernel)
set_option maxRecDepth 20000 in
theorem gX11_firstBadByte_X11_statementLength : GoodIn wsX11_firstBadByte (va_wsS RX11 284 yX11_statementLength wsX11_statementLength) := goodIn_app (goodIn_of _ (by decide +kernel)) ggX11_firstBadByte_X11_statementLength
set_option maxRecDepth 20000 in
theorem ggX11_firstBadByte_X9_digitAt : GoodIn wsX11_firstBadByte wsX9_digitAt := goodIn_r _ [19, 20, 2, 3, 4, 5, 6, 7, 8, 9, 10, 11, 21, 14, 22, 23, 24, 25, 26, 27, 28] (by decide +kernel) (by decide +kernel)
set_option maxRecDepth 20000 in
theorem gX11_firstBadByte_X9_digitAt : GoodIn wsX11_firstBadByte (wsV RX11 287 RX9 yX9_digitAt wsX9_digitAt) := goodIn_app (goodIn_of _ (by decide +kernel)) ggX11_firstBadByte_X9_digitAt
theorem dX11_firstBadByte_0 : decode cX11_firstBadByte 0 = .ok (.iconst 0, 1) := by decide +kernel
theorem dX11_firstBadByte_1 : decode cX11_firstBadByte 1 = .ok (.istore_n 1, 1) := by decide +kernel
theorem dX11_firstBadByte_2 : decode cX11_firstBadByte 2 = .ok (.aload_n 0, 1) := by decide +kernel
theorem dX11_firstBadByte_3 : decode cX11_firstBadByte 3 = .ok (.iload_n 1, 1) := by decide +kernel
theorem dX11_firstBadByte_4 : decode cX11_firstBadByte 4 = .ok (.invokevirtual 281, 3) := by decide +kernel
theorem dX11_firstBadByte_7 : decode cX11_firstBadByte 7 = .ok (.invokestatic 284, 3) := by decide +kernel
theorem dX11_firstBadByte_10 : decode cX11_firstBadByte 10 = .ok (.istore_n 2, 1) := by decide +kernel
theorem dX11_firstBadByte_11 : decode cX11_firstBadByte 11 = .ok (.iload_n 2, 1) := by decide +kernel
theorem dX11_firstBadByte_12 : decode cX11_firstBadByte 12 = .ok (.ifCond .ne 5, 3) := by decide +kernel
theorem dX11_firstBadByte_15 : decode cX11_firstBadByte 15 = .ok (.iload_n 1, 1) := by decide +kernel
theorem dX11_firstBadByte_16 : decode cX11_firstBadByte 16 = .ok (.ireturn, 1) := by decide +kernel
theorem dX11_firstBadByte_17 : decode cX11_firstBadByte 17 = .ok (.iload_n 1, 1) := by decide +kernel
theorem dX11_firstBadByte_18 : decode cX11_firstBadByte 18 = .ok (.iconst 1, 1) := by decide +kernel
theorem dX11_firstBadByte_19 : decode cX11_firstBadByte 19 = .ok (.iadd, 1) := by decide +kernel
theorem dX11_firstBadByte_20 : decode cX11_firstBadByte 20 = .ok (.istore_n 3, 1) := by decide +kernel
theorem dX11_firstBadByte_21 : decode cX11_firstBadByte 21 = .ok (.iload_n 3, 1) := by decide +kernel
theorem dX11_firstBadByte_22 : decode cX11_firstBadByte 22 = .ok (.iload_n 1, 1) := by decide +kernel
theorem dX11_firstBadByte_23 : decode cX11_firstBadByte 23 = .ok (.iload_n 2, 1) := by decide +kernel
theorem dX11_firstBadByte_24 : decode cX11_firstBadByte 24 = .ok (.iadd, 1) := by decide +kernel
theorem dX11_firstBadByte_25 : decode cX11_firstBadByte 25 = .ok (.if_icmp .ge 53, 3) := by decide +kernel
theorem dX11_firstBadByte_28 : decode cX11_firstBadByte 28 = .ok (.iload_n 3, 1) := by decide +kernel
theorem dX11_firstBadByte_29 : decode cX11_firstBadByte 29 = .ok (.iload_n 1, 1) := by decide +kernel
theorem dX11_firstBadByte_30 : decode cX11_firstBadByte 30 = .ok (.iload_n 2, 1) := by decide +kernel
theorem dX11_firstBadByte_31 : decode cX11_firstBadByte 31 = .ok (.iadd, 1) := by decide +kernel
theorem dX11_firstBadByte_32 : decode cX11_firstBadByte 32 = .ok (.iconst 1, 1) := by decide +kernel
theorem dX11_firstBadByte_33 : decode cX11_firstBadByte 33 = .ok (.isub, 1) := by decide +kernel
theorem dX11_firstBadByte_34 : decode cX11_firstBadByte 34 = .ok (.if_icmp .ne 7, 3) := by decide +kernel
theorem dX11_firstBadByte_37 : decode cX11_firstBadByte 37 = .ok (.iconst 1, 1) := by decide +kernel
theorem dX11_firstBadByte_38 : decode cX11_firstBadByte 38 = .ok (.goto 4, 3) := by decide +kernel
theorem dX11_firstBadByte_41 : decode cX11_firstBadByte 41 = .ok (.iconst 0, 1) := by decide +kernel
theorem dX11_firstBadByte_42 : decode cX11_firstBadByte 42 = .ok (.istore 4, 2) := by decide +kernel
theorem dX11_firstBadByte_44 : decode cX11_firstBadByte 44 = .ok (.iload 4, 2) := by decide +kernel
theorem dX11_firstBadByte_46 : decode cX11_firstBadByte 46 = .ok (.ifCond .eq 16, 3) := by decide +kernel
theorem dX11_firstBadByte_49 : decode cX11_firstBadByte 49 = .ok (.aload_n 0, 1) := by decide +kernel
theorem dX11_firstBadByte_50 : decode cX11_firstBadByte 50 = .ok (.iload_n 3, 1) := by decide +kernel
theorem dX11_firstBadByte_51 : decode cX11_firstBadByte 51 = .ok (.invokevirtual 281, 3) := by decide +kernel
theorem dX11_firstBadByte_54 : decode cX11_firstBadByte 54 = .ok (.bipush 59, 2) := by decide +kernel
theorem dX11_firstBadByte_56 : decode cX11_firstBadByte 56 = .ok (.if_icmp .eq 16, 3) := by decide +kernel
theorem dX11_firstBadByte_59 : decode cX11_firstBadByte 59 = .ok (.goto 11, 3) := by decide +kernel
theorem dX11_firstBadByte_62 : decode cX11_firstBadByte 62 = .ok (.aload_n 0, 1) := by decide +kernel
theorem dX11_firstBadByte_63 : decode cX11_firstBadByte 63 = .ok (.iload_n 3, 1) := by decide +kernel
theorem dX11_firstBadByte_64 : decode cX11_firstBadByte 64 = .ok (.invokevirtual 287, 3) := by decide +kernel
theorem dX11_firstBadByte_67 : decode cX11_firstBadByte 67 = .ok (.ifCond .ge 5, 3) := by decide +kernel
theorem dX11_firstBadByte_70 : decode cX11_firstBadByte 70 = .ok (.iload_n 3, 1) := by decide +kernel
theorem dX11_firstBadByte_71 : decode cX11_firstBadByte 71 = .ok (.ireturn, 1) := by decide +kernel
theorem dX11_firstBadByte_72 : decode cX11_firstBadByte 72 = .ok (.iinc 3 1, 3) := by decide +kernel
theorem dX11_firstBadByte_75 : decode cX11_firstBadByte 75 = .ok (.goto (-54), 3) := by decide +kernel
theorem dX11_firstBadByte_78 : decode cX11_firstBadByte 78 = .ok (.iload_n 1, 1) := by decide +kernel
theorem dX11_firstBadByte_79 : decode cX11_firstBadByte 79 = .ok (.iload_n 2, 1) := by decide +kernel
theorem dX11_firstBadByte_80 : decode cX11_firstBadByte 80 = .ok (.iadd, 1) := by decide +kernel
theorem dX11_firstBadByte_81 : decode cX11_firstBadByte 81 = .ok (.istore_n 1, 1) := by decide +kernel
theorem dX11_firstBadByte_82 : decode cX11_firstBadByte 82 = .ok (.iload_n 1, 1) := by decide +kernel
theorem dX11_firstBadByte_83 : decode cX11_firstBadByte 83 = .ok (.aload_n 0, 1) := by decide +kernel
theorem dX11_firstBadByte_84 : decode cX11_firstBadByte 84 = .ok (.getfield 290, 3) := by decide +kernel
theorem dX11_firstBadByte_87 : decode cX11_firstBadByte 87 = .ok (.if_icmp .lt (-85), 3) := by decide +kernel
theorem dX11_firstBadByte_90 : decode cX11_firstBadByte 90 = .ok (.iconst (-1), 1) := by decide +kernel
theorem dX11_firstBadByte_91 : decode cX11_firstBadByte 91 = .ok (.ireturn, 1) := by decide +kernel
theorem dX11_statementLength_0 : decode cX11_statementLength 0 = .ok (.iload_n 0, 1) := by decide +kernel
theorem dX11_statementLength_1 : decode cX11_statementLength 1 = .ok (.lookupswitch 60 #[(99, 56), (100, 58), (110, 51), (116, 54), (119, 58)], 51) := by decide +kernel
theorem dX11_statementLength_52 : decode cX11_statementLength 52 = .ok (.bipush 6, 2) := by decide +kernel
theorem dX11_statementLength_54 : decode cX11_statementLength 54 = .ok (.ireturn, 1) := by decide +kernel
theorem dX11_statementLength_55 : decode cX11_statementLength 55 = .ok (.iconst 3, 1) := by decide +kernel
theorem dX11_statementLength_56 : decode cX11_statementLength 56 = .ok (.ireturn, 1) := by decide +kernel
theorem dX11_statementLength_57 : decode cX11_statementLength 57 = .ok (.iconst 5, 1) := by decide +kernel
theorem dX11_statementLength_58 : decode cX11_statementLength 58 = .ok (.ireturn, 1) := by decide +kernel
theorem dX11_statementLength_59 : decode cX11_statementLength 59 = .ok (.iconst 2, 1) := by decide +kernel
theorem dX11_statementLength_60 : decode cX11_statementLength 60 = .ok (.ireturn, 1) := by decide +kernel
theorem dX11_statementLength_61 : decode cX11_statementLength 61 = .ok (.iconst 0, 1) := by decide +kernel
theorem dX11_statementLength_62 : decode cX11_statementLength 62 = .ok (.ireturn, 1) := by decide +kernel
set_option maxRecDepth 20000 in
theorem ggX11_readStatements_X6_takeAll : GoodIn wsX11_readStatements wsX6_takeAll := goodIn_r _ [11, 12, 13, 14, 15, 16, 17, 18, 19, 20, 21, 22, 23, 24, 25, 235, 236, 237, 238, 239, 240, 241, 242, 243, 244] (by decide +kernel) (by decide +kernel)
set_option maxRecDepth 20000 in
theorem gX11_readStatements_X6_takeAll : GoodIn wsX11_readStatements (wsV RX11 199 RX6 yX6_takeAll wsX6_takeAll) := goodIn_app (goodIn_of _ (by decide +kernel)) ggX11_readStatements_X6_takeAll
set_option maxRecDepth 20000 in
theorem ggX11_readStatements_X11_doStatement : GoodIn wsX11_readStatements wsX11_doStatement := goodIn_r _ [30, 1, 31, 32, 33, 34, 35, 36, 37, 38, 39, 40, 41, 42, 43, 44, 45, 46, 29, 47, 48, 49, 50, 51, 10, 52, 53, 12, 54, 55, 56, 57, 13, 58, 59, 60, 61, 62, 63, 64, 65, 17, 66, 19, 20, 21, 22, 23, 24, 25, 67, 68, 69, 70, 71, 72, 73, 74, 75, 76, 77, 78, 79, 80, 81, 82, 83, 84, 85, 86, 87, 88, 89, 90, 91, 92, 93, 94, 95, 96, 97, 4, 5, 6, 98, 99, 100, 101, 102, 103, 104, 105, 106, 107, 108, 109, 110, 111, 112, 113, 114, 115, 116, 117, 118, 119, 120, 121, 122, 123, 124, 125, 126, 127, 128, 129, 130, 131, 132, 133, 134, 135, 136, 137, 138, 139, 140, 141, 142, 143, 144, 145, 146, 147, 148, 149, 150, 151, 152, 153, 154, 155, 156, 157, 158, 159, 160, 161, 162, 163, 164, 165, 166, 167, 168, 169, 170, 171, 172, 173, 174, 175, 176, 177, 178, 179, 180, 181, 182, 183, 184, 185, 186, 187, 188, 189, 190, 191, 192, 193, 194, 195, 196, 197, 198, 199, 200, 201, 202, 203, 204, 205, 206, 207, 208, 209, 210, 211, 212, 213, 214, 215, 216, 220, 221, 222, 223, 224, 225, 226, 227, 228, 229, 230, 231, 232, 233, 234, 235, 236, 237, 238, 239, 240, 241, 242, 243, 244] (by decide +kernel) (by decide +kernel)
set_option maxRecDepth 20000 in
theorem gX11_readStatements_X11_doStatement : GoodIn wsX11_readStatements (wsV RX11 293 RX11 yX11_doStatement wsX11_doStatement) := goodIn_app (goodIn_of _ (by decide +kernel)) ggX11_readStatements_X11_doStatement
set_option maxRecDepth 20000 in
theorem ggX11_readStatements_X9_valueAt : GoodIn wsX11_readStatements wsX9_valueAt := goodIn_r _ [39, 40, 41, 42, 43, 34, 44, 45, 229, 230, 231, 232, 233, 234] (by decide +kernel) (by decide +kernel)
set_option maxRecDepth 20000 in
theorem gX11_readStatements_X9_valueAt : GoodIn wsX11_readStatements (wsV RX11 281 RX9 yX9_valueAt wsX9_valueAt) := goodIn_app (goodIn_of _ (by decide +kernel)) ggX11_readStatements_X9_valueAt
set_option maxRecDepth 20000 in
theorem ggX11_readStatements_X11_statementLength : GoodIn wsX11_readStatements wsX11_statementLength := goodIn_r _ [219] (by decide +kernel) (by decide +kernel)
set_option maxRecDepth 20000 in
theorem gX11_readStatements_X11_statementLength : GoodIn wsX11_readStatements (va_wsS RX11 284 yX11_statementLength wsX11_statementLength) := goodIn_app (goodIn_of _ (by decide +kernel)) ggX11_readStatements_X11_statementLength
theorem dX11_readStatements_0 : decode cX11_readStatements 0 = .ok (.aload_n 0, 1) := by decide +kernel
theorem dX11_readStatements_1 : decode cX11_readStatements 1 = .ok (.getfield 49, 3) := by decide +kernel
theorem dX11_readStatements_4 : decode cX11_readStatements 4 = .ok (.aload_n 0, 1) := by decide +kernel
theorem dX11_readStatements_5 : decode cX11_readStatements 5 = .ok (.getfield 42, 3) := by decide +kernel
theorem dX11_readStatements_8 : decode cX11_readStatements 8 = .ok (.invokevirtual 199, 3) := by decide +kernel
theorem dX11_readStatements_11 : decode cX11_readStatements 11 = .ok (.iconst 0, 1) := by decide +kernel
theorem dX11_readStatements_12 : decode cX11_readStatements 12 = .ok (.istore_n 2, 1) := by decide +kernel
theorem dX11_readStatements_13 : decode cX11_readStatements 13 = .ok (.iconst 1, 1) := by decide +kernel
theorem dX11_readStatements_14 : decode cX11_readStatements 14 = .ok (.istore_n 3, 1) := by decide +kernel
theorem dX11_readStatements_15 : decode cX11_readStatements 15 = .ok (.iconst 0, 1) := by decide +kernel
theorem dX11_readStatements_16 : decode cX11_readStatements 16 = .ok (.istore 4, 2) := by decide +kernel
theorem dX11_readStatements_18 : decode cX11_readStatements 18 = .ok (.iload 4, 2) := by decide +kernel
theorem dX11_readStatements_20 : decode cX11_readStatements 20 = .ok (.aload_n 1, 1) := by decide +kernel
theorem dX11_readStatements_21 : decode cX11_readStatements 21 = .ok (.getfield 290, 3) := by decide +kernel
theorem dX11_readStatements_24 : decode cX11_readStatements 24 = .ok (.if_icmp .ge 46, 3) := by decide +kernel
theorem dX11_readStatements_27 : decode cX11_readStatements 27 = .ok (.aload_n 0, 1) := by decide +kernel
theorem dX11_readStatements_28 : decode cX11_readStatements 28 = .ok (.aload_n 1, 1) := by decide +kernel
theorem dX11_readStatements_29 : decode cX11_readStatements 29 = .ok (.iload 4, 2) := by decide +kernel
theorem dX11_readStatements_31 : decode cX11_readStatements 31 = .ok (.invokevirtual 293, 3) := by decide +kernel
theorem dX11_readStatements_34 : decode cX11_readStatements 34 = .ok (.ifCond .ge 10, 3) := by decide +kernel
theorem dX11_readStatements_37 : decode cX11_readStatements 37 = .ok (.sipush (-2000), 3) := by decide +kernel
theorem dX11_readStatements_40 : decode cX11_readStatements 40 = .ok (.iload 4, 2) := by decide +kernel
theorem dX11_readStatements_42 : decode cX11_readStatements 42 = .ok (.isub, 1) := by decide +kernel
theorem dX11_readStatements_43 : decode cX11_readStatements 43 = .ok (.ireturn, 1) := by decide +kernel
theorem dX11_readStatements_44 : decode cX11_readStatements 44 = .ok (.iconst 1, 1) := by decide +kernel
theorem dX11_readStatements_45 : decode cX11_readStatements 45 = .ok (.aload_n 1, 1) := by decide +kernel
theorem dX11_readStatements_46 : decode cX11_readStatements 46 = .ok (.iload 4, 2) := by decide +kernel
theorem dX11_readStatements_48 : decode cX11_readStatements 48 = .ok (.invokevirtual 281, 3) := by decide +kernel
theorem dX11_readStatements_51 : decode cX11_readStatements 51 = .ok (.invokestatic 284, 3) := by decide +kernel
theorem dX11_readStatements_54 : decode cX11_readStatements 54 = .ok (.invokestatic 297, 3) := by decide +kernel
theorem dX11_readStatements_57 : decode cX11_readStatements 57 = .ok (.istore_n 3, 1) := by decide +kernel
theorem dX11_readStatements_58 : decode cX11_readStatements 58 = .ok (.iinc 2 1, 3) := by decide +kernel
theorem dX11_readStatements_61 : decode cX11_readStatements 61 = .ok (.iload 4, 2) := by decide +kernel
theorem dX11_readStatements_63 : decode cX11_readStatements 63 = .ok (.iload_n 3, 1) := by decide +kernel
theorem dX11_readStatements_64 : decode cX11_readStatements 64 = .ok (.iadd, 1) := by decide +kernel
theorem dX11_readStatements_65 : decode cX11_readStatements 65 = .ok (.istore 4, 2) := by decide +kernel
theorem dX11_readStatements_67 : decode cX11_readStatements 67 = .ok (.goto (-49), 3) := by decide +kernel
theorem dX11_readStatements_70 : decode cX11_readStatements 70 = .ok (.aload_n 0, 1) := by decide +kernel
theorem dX11_readStatements_71 : decode cX11_readStatements 71 = .ok (.getfield 42, 3) := by decide +kernel
theorem dX11_readStatements_74 : decode cX11_readStatements 74 = .ok (.aload_n 0, 1) := by decide +kernel
theorem dX11_readStatements_75 : decode cX11_readStatements 75 = .ok (.getfield 49, 3) := by decide +kernel
theorem dX11_readStatements_78 : decode cX11_readStatements 78 = .ok (.invokevirtual 199, 3) := by decide +kernel
theorem dX11_readStatements_81 : decode cX11_readStatements 81 = .ok (.iload_n 2, 1) := by decide +kernel
theorem dX11_readStatements_82 : decode cX11_readStatements 82 = .ok (.ireturn, 1) := by decide +kernel
set_option maxRecDepth 20000 in
theorem ggX11_doStatement_X9_digitAt : GoodIn wsX11_doStatement wsX9_digitAt := goodIn_r _ [6, 7, 8, 9, 5, 10, 11, 12, 13, 14, 15, 16, 17, 18, 19, 212, 213, 214, 215, 216, 217] (by decide +kernel) (by decide +kernel)
set_option maxRecDepth 20000 in
theorem gX11_doStatement_X9_digitAt : GoodIn wsX11_doStatement (wsV RX11 287 RX9 yX9_digitAt wsX9_digitAt) := goodIn_app (goodIn_of _ (by decide +kernel)) ggX11_doStatement_X9_digitAt
set_option maxRecDepth 20000 in
theorem ggX11_doStatement_X9_valueAt : GoodIn wsX11_doStatement wsX9_valueAt := goodIn_r _ [10, 11, 12, 13, 14, 5, 15, 16, 212, 213, 214, 215, 216, 217] (by decide +kernel) (by decide +kernel)
set_option maxRecDepth 20000 in
theorem gX11_doStatement_X9_valueAt : GoodIn wsX11_doStatement (wsV RX11 281 RX9 yX9_valueAt wsX9_valueAt) := goodIn_app (goodIn_of _ (by decide +kernel)) ggX11_doStatement_X9_valueAt
set_option maxRecDepth 20000 in
theorem ggX11_doStatement_X6_freezeIn : GoodIn wsX11_doStatement wsX6_freezeIn := goodIn_r _ [25, 26, 27, 28, 29, 30, 24, 31, 32, 17, 18, 19, 33, 34, 35, 36, 37, 38, 39, 40, 41, 42, 43, 44, 45, 46, 47, 48, 49, 50, 51, 52, 53, 54, 55, 56, 57, 58, 59, 60, 61, 62, 63, 64, 65, 66, 67, 68, 69, 70, 71, 72, 73, 74, 75, 76, 77, 78, 79, 80, 81, 82, 83, 84, 85, 86, 87, 88, 89, 90, 91, 92, 93, 94, 95, 96, 97, 98, 99, 100, 101, 102, 103, 104, 105, 106, 107, 108, 109, 110, 111, 112, 113, 114, 115, 116, 117, 118, 119, 120, 121, 122, 123, 124, 125, 126, 127, 128, 129, 130, 131, 132, 133, 134, 135, 136, 137, 138, 139, 140, 141, 142, 143, 144, 145, 146, 147, 148, 149, 150, 151, 152, 153, 154, 155, 156, 157, 158, 159, 160, 161, 162, 218, 219, 220, 221, 222, 223, 224, 225, 226, 227] (by decide +kernel) (by decide +kernel)
set_option maxRecDepth 20000 in
theorem gX11_doStatement_X6_freezeIn : GoodIn wsX11_doStatement (wsV RX11 99 RX6 yX6_freezeIn wsX6_freezeIn) := goodIn_app (goodIn_of _ (by decide +kernel)) ggX11_doStatement_X6_freezeIn
set_option maxRecDepth 20000 in
theorem ggX11_doStatement_X6_thawFor : GoodIn wsX11_doStatement wsX6_thawFor := goodIn_r _ [166, 32, 17, 18, 19, 167, 168, 169, 41, 170, 43, 171, 172, 82, 173, 174, 175, 176, 177, 178, 179, 180, 181, 48, 182, 183, 184, 185, 47, 186, 187, 188, 189, 218, 219, 220, 221, 222, 223, 224, 225, 226, 227] (by decide +kernel) (by decide +kernel)
set_option maxRecDepth 20000 in
theorem gX11_doStatement_X6_thawFor : GoodIn wsX11_doStatement (wsV RX11 103 RX6 yX6_thawFor wsX6_thawFor) := goodIn_app (goodIn_of _ (by decide +kernel)) ggX11_doStatement_X6_thawFor
set_option maxRecDepth 20000 in
theorem ggX11_doStatement_X6_cutIn : GoodIn wsX11_doStatement wsX6_cutIn := goodIn_r _ [193, 28, 29, 30, 24, 31, 32, 17, 18, 19, 194, 187, 188, 41, 189, 43, 171, 172, 82, 173, 47, 174, 175, 176, 177, 182, 183, 184, 185, 218, 219, 220, 221, 222, 223, 224, 225, 226, 227] (by decide +kernel) (by decide +kernel)
set_option maxRecDepth 20000 in
theorem gX11_doStatement_X6_cutIn : GoodIn wsX11_doStatement (wsV RX11 106 RX6 yX6_cutIn wsX6_cutIn) := goodIn_app (goodIn_of _ (by decide +kernel)) ggX11_doStatement_X6_cutIn
set_option maxRecDepth 20000 in
theorem ggX11_doStatement_X6_driftOn : GoodIn wsX11_doStatement wsX6_driftOn := goodIn_r _ [198, 32, 218, 219, 220, 221, 222, 223, 224, 225, 226, 227] (by decide +kernel) (by decide +kernel)
set_option maxRecDepth 20000 in
theorem gX11_doStatement_X6_driftOn : GoodIn wsX11_doStatement (wsV RX11 110 RX6 yX6_driftOn wsX6_driftOn) := goodIn_app (goodIn_of _ (by decide +kernel)) ggX11_doStatement_X6_driftOn
set_option maxRecDepth 20000 in
theorem ggX11_doStatement_X6_nextWinter : GoodIn wsX11_doStatement wsX6_nextWinter := goodIn_r _ [202, 27, 218, 219, 220] (by decide +kernel) (by decide +kernel)
set_option maxRecDepth 20000 in
theorem gX11_doStatement_X6_nextWinter : GoodIn wsX11_doStatement (wsV RX11 114 RX6 yX6_nextWinter wsX6_nextWinter) := goodIn_app (goodIn_of _ (by decide +kernel)) ggX11_doStatement_X6_nextWinter
theorem dX11_doStatement_0 : decode cX11_doStatement 0 = .ok (.aload_n 1, 1) := by decide +kernel
theorem dX11_doStatement_1 : decode cX11_doStatement 1 = .ok (.iload_n 2, 1) := by decide +kernel
theorem dX11_doStatement_2 : decode cX11_doStatement 2 = .ok (.iconst 1, 1) := by decide +kernel
theorem dX11_doStatement_3 : decode cX11_doStatement 3 = .ok (.iadd, 1) := by decide +kernel
theorem dX11_doStatement_4 : decode cX11_doStatement 4 = .ok (.invokevirtual 287, 3) := by decide +kernel
theorem dX11_doStatement_7 : decode cX11_doStatement 7 = .ok (.istore_n 3, 1) := by decide +kernel
theorem dX11_doStatement_8 : decode cX11_doStatement 8 = .ok (.aload_n 1, 1) := by decide +kernel
theorem dX11_doStatement_9 : decode cX11_doStatement 9 = .ok (.iload_n 2, 1) := by decide +kernel
theorem dX11_doStatement_10 : decode cX11_doStatement 10 = .ok (.invokevirtual 281, 3) := by decide +kernel
theorem dX11_doStatement_13 : decode cX11_doStatement 13 = .ok (.lookupswitch 117 #[(99, 82), (100, 109), (110, 43), (116, 73)], 43) := by decide +kernel
theorem dX11_doStatement_56 : decode cX11_doStatement 56 = .ok (.aload_n 0, 1) := by decide +kernel
theorem dX11_doStatement_57 : decode cX11_doStatement 57 = .ok (.getfield 49, 3) := by decide +kernel
theorem dX11_doStatement_60 : decode cX11_doStatement 60 = .ok (.iload_n 3, 1) := by decide +kernel
theorem dX11_doStatement_61 : decode cX11_doStatement 61 = .ok (.aload_n 1, 1) := by decide +kernel
theorem dX11_doStatement_62 : decode cX11_doStatement 62 = .ok (.iload_n 2, 1) := by decide +kernel
theorem dX11_doStatement_63 : decode cX11_doStatement 63 = .ok (.iconst 2, 1) := by decide +kernel
theorem dX11_doStatement_64 : decode cX11_doStatement 64 = .ok (.iadd, 1) := by decide +kernel
theorem dX11_doStatement_65 : decode cX11_doStatement 65 = .ok (.invokevirtual 287, 3) := by decide +kernel
theorem dX11_doStatement_68 : decode cX11_doStatement 68 = .ok (.aload_n 1, 1) := by decide +kernel
theorem dX11_doStatement_69 : decode cX11_doStatement 69 = .ok (.iload_n 2, 1) := by decide +kernel
theorem dX11_doStatement_70 : decode cX11_doStatement 70 = .ok (.iconst 3, 1) := by decide +kernel
theorem dX11_doStatement_71 : decode cX11_doStatement 71 = .ok (.iadd, 1) := by decide +kernel
theorem dX11_doStatement_72 : decode cX11_doStatement 72 = .ok (.invokevirtual 287, 3) := by decide +kernel
theorem dX11_doStatement_75 : decode cX11_doStatement 75 = .ok (.aload_n 1, 1) := by decide +kernel
theorem dX11_doStatement_76 : decode cX11_doStatement 76 = .ok (.iload_n 2, 1) := by decide +kernel
theorem dX11_doStatement_77 : decode cX11_doStatement 77 = .ok (.iconst 4, 1) := by decide +kernel
theorem dX11_doStatement_78 : decode cX11_doStatement 78 = .ok (.iadd, 1) := by decide +kernel
theorem dX11_doStatement_79 : decode cX11_doStatement 79 = .ok (.invokevirtual 287, 3) := by decide +kernel
theorem dX11_doStatement_82 : decode cX11_doStatement 82 = .ok (.invokevirtual 99, 3) := by decide +kernel
theorem dX11_doStatement_85 : decode cX11_doStatement 85 = .ok (.ireturn, 1) := by decide +kernel
theorem dX11_doStatement_86 : decode cX11_doStatement 86 = .ok (.aload_n 0, 1) := by decide +kernel
theorem dX11_doStatement_87 : decode cX11_doStatement 87 = .ok (.getfield 49, 3) := by decide +kernel
theorem dX11_doStatement_90 : decode cX11_doStatement 90 = .ok (.iload_n 3, 1) := by decide +kernel
theorem dX11_doStatement_91 : decode cX11_doStatement 91 = .ok (.invokevirtual 103, 3) := by decide +kernel
theorem dX11_doStatement_94 : decode cX11_doStatement 94 = .ok (.ireturn, 1) := by decide +kernel
theorem dX11_doStatement_95 : decode cX11_doStatement 95 = .ok (.aload_n 0, 1) := by decide +kernel
theorem dX11_doStatement_96 : decode cX11_doStatement 96 = .ok (.getfield 49, 3) := by decide +kernel
theorem dX11_doStatement_99 : decode cX11_doStatement 99 = .ok (.iload_n 3, 1) := by decide +kernel
theorem dX11_doStatement_100 : decode cX11_doStatement 100 = .ok (.bipush 10, 2) := by decide +kernel
theorem dX11_doStatement_102 : decode cX11_doStatement 102 = .ok (.aload_n 1, 1) := by decide +kernel
theorem dX11_doStatement_103 : decode cX11_doStatement 103 = .ok (.iload_n 2, 1) := by decide +kernel
theorem dX11_doStatement_104 : decode cX11_doStatement 104 = .ok (.iconst 2, 1) := by decide +kernel
theorem dX11_doStatement_105 : decode cX11_doStatement 105 = .ok (.iadd, 1) := by decide +kernel
theorem dX11_doStatement_106 : decode cX11_doStatement 106 = .ok (.invokevirtual 287, 3) := by decide +kernel
theorem dX11_doStatement_109 : decode cX11_doStatement 109 = .ok (.imul, 1) := by decide +kernel
theorem dX11_doStatement_110 : decode cX11_doStatement 110 = .ok (.aload_n 1, 1) := by decide +kernel
theorem dX11_doStatement_111 : decode cX11_doStatement 111 = .ok (.iload_n 2, 1) := by decide +kernel
theorem dX11_doStatement_112 : decode cX11_doStatement 112 = .ok (.iconst 3, 1) := by decide +kernel
theorem dX11_doStatement_113 : decode cX11_doStatement 113 = .ok (.iadd, 1) := by decide +kernel
theorem dX11_doStatement_114 : decode cX11_doStatement 114 = .ok (.invokevirtual 287, 3) := by decide +kernel
theorem dX11_doStatement_117 : decode cX11_doStatement 117 = .ok (.iadd, 1) := by decide +kernel
theorem dX11_doStatement_118 : decode cX11_doStatement 118 = .ok (.invokevirtual 106, 3) := by decide +kernel
theorem dX11_doStatement_121 : decode cX11_doStatement 121 = .ok (.ireturn, 1) := by decide +kernel
theorem dX11_doStatement_122 : decode cX11_doStatement 122 = .ok (.aload_n 0, 1) := by decide +kernel
theorem dX11_doStatement_123 : decode cX11_doStatement 123 = .ok (.getfield 49, 3) := by decide +kernel
theorem dX11_doStatement_126 : decode cX11_doStatement 126 = .ok (.invokevirtual 110, 3) := by decide +kernel
theorem dX11_doStatement_129 : decode cX11_doStatement 129 = .ok (.ireturn, 1) := by decide +kernel
theorem dX11_doStatement_130 : decode cX11_doStatement 130 = .ok (.aload_n 0, 1) := by decide +kernel
theorem dX11_doStatement_131 : decode cX11_doStatement 131 = .ok (.getfield 49, 3) := by decide +kernel
theorem dX11_doStatement_134 : decode cX11_doStatement 134 = .ok (.invokevirtual 114, 3) := by decide +kernel
theorem dX11_doStatement_137 : decode cX11_doStatement 137 = .ok (.ireturn, 1) := by decide +kernel
theorem dX11_seenInAll_0 : decode cX11_seenInAll 0 = .ok (.iconst 0, 1) := by decide +kernel
theorem dX11_seenInAll_1 : decode cX11_seenInAll 1 = .ok (.istore_n 2, 1) := by decide +kernel
theorem dX11_seenInAll_2 : decode cX11_seenInAll 2 = .ok (.iconst 0, 1) := by decide +kernel
theorem dX11_seenInAll_3 : decode cX11_seenInAll 3 = .ok (.istore_n 3, 1) := by decide +kernel
theorem dX11_seenInAll_4 : decode cX11_seenInAll 4 = .ok (.iload_n 3, 1) := by decide +kernel
theorem dX11_seenInAll_5 : decode cX11_seenInAll 5 = .ok (.bipush 6, 2) := by decide +kernel
theorem dX11_seenInAll_7 : decode cX11_seenInAll 7 = .ok (.if_icmp .ge 27, 3) := by decide +kernel
theorem dX11_seenInAll_10 : decode cX11_seenInAll 10 = .ok (.iload_n 1, 1) := by decide +kernel
theorem dX11_seenInAll_11 : decode cX11_seenInAll 11 = .ok (.iload_n 3, 1) := by decide +kernel
theorem dX11_seenInAll_12 : decode cX11_seenInAll 12 = .ok (.ishr, 1) := by decide +kernel
theorem dX11_seenInAll_13 : decode cX11_seenInAll 13 = .ok (.iconst 1, 1) := by decide +kernel
theorem dX11_seenInAll_14 : decode cX11_seenInAll 14 = .ok (.iand, 1) := by decide +kernel
theorem dX11_seenInAll_15 : decode cX11_seenInAll 15 = .ok (.iconst 1, 1) := by decide +kernel
theorem dX11_seenInAll_16 : decode cX11_seenInAll 16 = .ok (.if_icmp .ne 12, 3) := by decide +kernel
theorem dX11_seenInAll_19 : decode cX11_seenInAll 19 = .ok (.iload_n 2, 1) := by decide +kernel
theorem dX11_seenInAll_20 : decode cX11_seenInAll 20 = .ok (.aload_n 0, 1) := by decide +kernel
theorem dX11_seenInAll_21 : decode cX11_seenInAll 21 = .ok (.getfield 59, 3) := by decide +kernel
theorem dX11_seenInAll_24 : decode cX11_seenInAll 24 = .ok (.iload_n 3, 1) := by decide +kernel
theorem dX11_seenInAll_25 : decode cX11_seenInAll 25 = .ok (.iaload, 1) := by decide +kernel
theorem dX11_seenInAll_26 : decode cX11_seenInAll 26 = .ok (.ior, 1) := by decide +kernel
theorem dX11_seenInAll_27 : decode cX11_seenInAll 27 = .ok (.istore_n 2, 1) := by decide +kernel
theorem dX11_seenInAll_28 : decode cX11_seenInAll 28 = .ok (.iinc 3 1, 3) := by decide +kernel
theorem dX11_seenInAll_31 : decode cX11_seenInAll 31 = .ok (.goto (-27), 3) := by decide +kernel
theorem dX11_seenInAll_34 : decode cX11_seenInAll 34 = .ok (.iload_n 2, 1) := by decide +kernel
theorem dX11_seenInAll_35 : decode cX11_seenInAll 35 = .ok (.ireturn, 1) := by decide +kernel
theorem dX11_leastNext_0 : decode cX11_leastNext 0 = .ok (.iconst 0, 1) := by decide +kernel
theorem dX11_leastNext_1 : decode cX11_leastNext 1 = .ok (.istore_n 3, 1) := by decide +kernel
theorem dX11_leastNext_2 : decode cX11_leastNext 2 = .ok (.iload_n 3, 1) := by decide +kernel
theorem dX11_leastNext_3 : decode cX11_leastNext 3 = .ok (.bipush 10, 2) := by decide +kernel
theorem dX11_leastNext_5 : decode cX11_leastNext 5 = .ok (.if_icmp .ge 49, 3) := by decide +kernel
theorem dX11_leastNext_8 : decode cX11_leastNext 8 = .ok (.iload_n 1, 1) := by decide +kernel
theorem dX11_leastNext_9 : decode cX11_leastNext 9 = .ok (.iload_n 2, 1) := by decide +kernel
theorem dX11_leastNext_10 : decode cX11_leastNext 10 = .ok (.iconst (-1), 1) := by decide +kernel
theorem dX11_leastNext_11 : decode cX11_leastNext 11 = .ok (.ixor, 1) := by decide +kernel
theorem dX11_leastNext_12 : decode cX11_leastNext 12 = .ok (.iand, 1) := by decide +kernel
theorem dX11_leastNext_13 : decode cX11_leastNext 13 = .ok (.iload_n 3, 1) := by decide +kernel
theorem dX11_leastNext_14 : decode cX11_leastNext 14 = .ok (.ishr, 1) := by decide +kernel
theorem dX11_leastNext_15 : decode cX11_leastNext 15 = .ok (.iconst 1, 1) := by decide +kernel
theorem dX11_leastNext_16 : decode cX11_leastNext 16 = .ok (.iand, 1) := by decide +kernel
theorem dX11_leastNext_17 : decode cX11_leastNext 17 = .ok (.iconst 1, 1) := by decide +kernel
theorem dX11_leastNext_18 : decode cX11_leastNext 18 = .ok (.if_icmp .ne 7, 3) := by decide +kernel
theorem dX11_leastNext_21 : decode cX11_leastNext 21 = .ok (.iconst 1, 1) := by decide +kernel
theorem dX11_leastNext_22 : decode cX11_leastNext 22 = .ok (.goto 4, 3) := by decide +kernel
theorem dX11_leastNext_25 : decode cX11_leastNext 25 = .ok (.iconst 0, 1) := by decide +kernel
theorem dX11_leastNext_26 : decode cX11_leastNext 26 = .ok (.istore 4, 2) := by decide +kernel
theorem dX11_leastNext_28 : decode cX11_leastNext 28 = .ok (.iload 4, 2) := by decide +kernel
theorem dX11_leastNext_30 : decode cX11_leastNext 30 = .ok (.ifCond .eq 18, 3) := by decide +kernel
theorem dX11_leastNext_33 : decode cX11_leastNext 33 = .ok (.aload_n 0, 1) := by decide +kernel
theorem dX11_leastNext_34 : decode cX11_leastNext 34 = .ok (.getfield 63, 3) := by decide +kernel
theorem dX11_leastNext_37 : decode cX11_leastNext 37 = .ok (.iload_n 3, 1) := by decide +kernel
theorem dX11_leastNext_38 : decode cX11_leastNext 38 = .ok (.iaload, 1) := by decide +kernel
theorem dX11_leastNext_39 : decode cX11_leastNext 39 = .ok (.iload_n 2, 1) := by decide +kernel
theorem dX11_leastNext_40 : decode cX11_leastNext 40 = .ok (.iconst (-1), 1) := by decide +kernel
theorem dX11_leastNext_41 : decode cX11_leastNext 41 = .ok (.ixor, 1) := by decide +kernel
theorem dX11_leastNext_42 : decode cX11_leastNext 42 = .ok (.iand, 1) := by decide +kernel
theorem dX11_leastNext_43 : decode cX11_leastNext 43 = .ok (.ifCond .ne 5, 3) := by decide +kernel
theorem dX11_leastNext_46 : decode cX11_leastNext 46 = .ok (.iload_n 3, 1) := by decide +kernel
theorem dX11_leastNext_47 : decode cX11_leastNext 47 = .ok (.ireturn, 1) := by decide +kernel
theorem dX11_leastNext_48 : decode cX11_leastNext 48 = .ok (.iinc 3 1, 3) := by decide +kernel
theorem dX11_leastNext_51 : decode cX11_leastNext 51 = .ok (.goto (-49), 3) := by decide +kernel
theorem dX11_leastNext_54 : decode cX11_leastNext 54 = .ok (.bipush (-4), 2) := by decide +kernel
theorem dX11_leastNext_56 : decode cX11_leastNext 56 = .ok (.ireturn, 1) := by decide +kernel
set_option maxRecDepth 20000 in
theorem ggX11_alikeFingers_X2_thickAt : GoodIn wsX11_alikeFingers wsX2_thickAt := goodIn_r _ [9, 10, 11, 12, 13, 8, 14, 15, 21, 22, 23, 24, 25, 26, 27] (by decide +kernel) (by decide +kernel)
set_option maxRecDepth 20000 in
theorem gX11_alikeFingers_X2_thickAt : GoodIn wsX11_alikeFingers (wsV RX11 302 RX2 yX2_thickAt wsX2_thickAt) := goodIn_app (goodIn_of _ (by decide +kernel)) ggX11_alikeFingers_X2_thickAt
set_option maxRecDepth 20000 in
theorem ggX11_alikeFingers_X2_oathAt : GoodIn wsX11_alikeFingers wsX2_oathAt := goodIn_r _ [19, 20, 11, 12, 13, 8, 14, 15, 21, 22, 23, 24, 25, 26, 27] (by decide +kernel) (by decide +kernel)
set_option maxRecDepth 20000 in
theorem gX11_alikeFingers_X2_oathAt : GoodIn wsX11_alikeFingers (wsV RX11 305 RX2 yX2_oathAt wsX2_oathAt) := goodIn_app (goodIn_of _ (by decide +kernel)) ggX11_alikeFingers_X2_oathAt
theorem dX11_alikeFingers_0 : decode cX11_alikeFingers 0 = .ok (.iconst 0, 1) := by decide +kernel
theorem dX11_alikeFingers_1 : decode cX11_alikeFingers 1 = .ok (.istore_n 2, 1) := by decide +kernel
theorem dX11_alikeFingers_2 : decode cX11_alikeFingers 2 = .ok (.aload_n 0, 1) := by decide +kernel
theorem dX11_alikeFingers_3 : decode cX11_alikeFingers 3 = .ok (.getfield 126, 3) := by decide +kernel
theorem dX11_alikeFingers_6 : decode cX11_alikeFingers 6 = .ok (.iconst 1, 1) := by decide +kernel
theorem dX11_alikeFingers_7 : decode cX11_alikeFingers 7 = .ok (.isub, 1) := by decide +kernel
theorem dX11_alikeFingers_8 : decode cX11_alikeFingers 8 = .ok (.istore_n 3, 1) := by decide +kernel
theorem dX11_alikeFingers_9 : decode cX11_alikeFingers 9 = .ok (.aload_n 1, 1) := by decide +kernel
theorem dX11_alikeFingers_10 : decode cX11_alikeFingers 10 = .ok (.getfield 126, 3) := by decide +kernel
theorem dX11_alikeFingers_13 : decode cX11_alikeFingers 13 = .ok (.iconst 1, 1) := by decide +kernel
theorem dX11_alikeFingers_14 : decode cX11_alikeFingers 14 = .ok (.isub, 1) := by decide +kernel
theorem dX11_alikeFingers_15 : decode cX11_alikeFingers 15 = .ok (.istore 4, 2) := by decide +kernel
theorem dX11_alikeFingers_17 : decode cX11_alikeFingers 17 = .ok (.aload_n 0, 1) := by decide +kernel
theorem dX11_alikeFingers_18 : decode cX11_alikeFingers 18 = .ok (.iload_n 3, 1) := by decide +kernel
theorem dX11_alikeFingers_19 : decode cX11_alikeFingers 19 = .ok (.invokevirtual 302, 3) := by decide +kernel
theorem dX11_alikeFingers_22 : decode cX11_alikeFingers 22 = .ok (.istore 5, 2) := by decide +kernel
theorem dX11_alikeFingers_24 : decode cX11_alikeFingers 24 = .ok (.aload_n 1, 1) := by decide +kernel
theorem dX11_alikeFingers_25 : decode cX11_alikeFingers 25 = .ok (.iload 4, 2) := by decide +kernel
theorem dX11_alikeFingers_27 : decode cX11_alikeFingers 27 = .ok (.invokevirtual 302, 3) := by decide +kernel
theorem dX11_alikeFingers_30 : decode cX11_alikeFingers 30 = .ok (.istore 6, 2) := by decide +kernel
theorem dX11_alikeFingers_32 : decode cX11_alikeFingers 32 = .ok (.iload_n 3, 1) := by decide +kernel
theorem dX11_alikeFingers_33 : decode cX11_alikeFingers 33 = .ok (.ifCond .lt 84, 3) := by decide +kernel
theorem dX11_alikeFingers_36 : decode cX11_alikeFingers 36 = .ok (.iload 4, 2) := by decide +kernel
theorem dX11_alikeFingers_38 : decode cX11_alikeFingers 38 = .ok (.ifCond .lt 79, 3) := by decide +kernel
theorem dX11_alikeFingers_41 : decode cX11_alikeFingers 41 = .ok (.aload_n 0, 1) := by decide +kernel
theorem dX11_alikeFingers_42 : decode cX11_alikeFingers 42 = .ok (.iload_n 3, 1) := by decide +kernel
theorem dX11_alikeFingers_43 : decode cX11_alikeFingers 43 = .ok (.invokevirtual 305, 3) := by decide +kernel
theorem dX11_alikeFingers_46 : decode cX11_alikeFingers 46 = .ok (.aload_n 1, 1) := by decide +kernel
theorem dX11_alikeFingers_47 : decode cX11_alikeFingers 47 = .ok (.iload 4, 2) := by decide +kernel
theorem dX11_alikeFingers_49 : decode cX11_alikeFingers 49 = .ok (.invokevirtual 305, 3) := by decide +kernel
theorem dX11_alikeFingers_52 : decode cX11_alikeFingers 52 = .ok (.if_icmp .ne 65, 3) := by decide +kernel
theorem dX11_alikeFingers_55 : decode cX11_alikeFingers 55 = .ok (.iload 5, 2) := by decide +kernel
theorem dX11_alikeFingers_57 : decode cX11_alikeFingers 57 = .ok (.iload 6, 2) := by decide +kernel
theorem dX11_alikeFingers_59 : decode cX11_alikeFingers 59 = .ok (.invokestatic 308, 3) := by decide +kernel
theorem dX11_alikeFingers_62 : decode cX11_alikeFingers 62 = .ok (.istore 7, 2) := by decide +kernel
theorem dX11_alikeFingers_64 : decode cX11_alikeFingers 64 = .ok (.iload_n 2, 1) := by decide +kernel
theorem dX11_alikeFingers_65 : decode cX11_alikeFingers 65 = .ok (.iload 7, 2) := by decide +kernel
theorem dX11_alikeFingers_67 : decode cX11_alikeFingers 67 = .ok (.iadd, 1) := by decide +kernel
theorem dX11_alikeFingers_68 : decode cX11_alikeFingers 68 = .ok (.istore_n 2, 1) := by decide +kernel
theorem dX11_alikeFingers_69 : decode cX11_alikeFingers 69 = .ok (.iload 5, 2) := by decide +kernel
theorem dX11_alikeFingers_71 : decode cX11_alikeFingers 71 = .ok (.iload 7, 2) := by decide +kernel
theorem dX11_alikeFingers_73 : decode cX11_alikeFingers 73 = .ok (.isub, 1) := by decide +kernel
theorem dX11_alikeFingers_74 : decode cX11_alikeFingers 74 = .ok (.istore 5, 2) := by decide +kernel
theorem dX11_alikeFingers_76 : decode cX11_alikeFingers 76 = .ok (.iload 6, 2) := by decide +kernel
theorem dX11_alikeFingers_78 : decode cX11_alikeFingers 78 = .ok (.iload 7, 2) := by decide +kernel
theorem dX11_alikeFingers_80 : decode cX11_alikeFingers 80 = .ok (.isub, 1) := by decide +kernel
theorem dX11_alikeFingers_81 : decode cX11_alikeFingers 81 = .ok (.istore 6, 2) := by decide +kernel
theorem dX11_alikeFingers_83 : decode cX11_alikeFingers 83 = .ok (.iload 5, 2) := by decide +kernel
theorem dX11_alikeFingers_85 : decode cX11_alikeFingers 85 = .ok (.ifCond .ne 13, 3) := by decide +kernel
theorem dX11_alikeFingers_88 : decode cX11_alikeFingers 88 = .ok (.iinc 3 (-1), 3) := by decide +kernel
theorem dX11_alikeFingers_91 : decode cX11_alikeFingers 91 = .ok (.aload_n 0, 1) := by decide +kernel
theorem dX11_alikeFingers_92 : decode cX11_alikeFingers 92 = .ok (.iload_n 3, 1) := by decide +kernel
theorem dX11_alikeFingers_93 : decode cX11_alikeFingers 93 = .ok (.invokevirtual 302, 3) := by decide +kernel
theorem dX11_alikeFingers_96 : decode cX11_alikeFingers 96 = .ok (.istore 5, 2) := by decide +kernel
theorem dX11_alikeFingers_98 : decode cX11_alikeFingers 98 = .ok (.iload 6, 2) := by decide +kernel
theorem dX11_alikeFingers_100 : decode cX11_alikeFingers 100 = .ok (.ifCond .ne 14, 3) := by decide +kernel
theorem dX11_alikeFingers_103 : decode cX11_alikeFingers 103 = .ok (.iinc 4 (-1), 3) := by decide +kernel
theorem dX11_alikeFingers_106 : decode cX11_alikeFingers 106 = .ok (.aload_n 1, 1) := by decide +kernel
theorem dX11_alikeFingers_107 : decode cX11_alikeFingers 107 = .ok (.iload 4, 2) := by decide +kernel
theorem dX11_alikeFingers_109 : decode cX11_alikeFingers 109 = .ok (.invokevirtual 302, 3) := by decide +kernel
theorem dX11_alikeFingers_112 : decode cX11_alikeFingers 112 = .ok (.istore 6, 2) := by decide +kernel
theorem dX11_alikeFingers_114 : decode cX11_alikeFingers 114 = .ok (.goto (-82), 3) := by decide +kernel
theorem dX11_alikeFingers_117 : decode cX11_alikeFingers 117 = .ok (.iload_n 2, 1) := by decide +kernel
theorem dX11_alikeFingers_118 : decode cX11_alikeFingers 118 = .ok (.ireturn, 1) := by decide +kernel
set_option maxRecDepth 20000 in
theorem ggX11_happen_X6_thawFor : GoodIn wsX11_happen wsX6_thawFor := goodIn_r _ [6, 7, 8, 9, 10, 11, 12, 13, 14, 15, 16, 17, 18, 19, 20, 21, 22, 23, 24, 25, 26, 27, 28, 29, 30, 31, 32, 33, 34, 35, 36, 37, 38, 199, 200, 201, 202, 203, 204, 205, 206, 207, 208] (by decide +kernel) (by decide +kernel)
set_option maxRecDepth 20000 in
theorem gX11_happen_X6_thawFor : GoodIn wsX11_happen (wsV RX11 103 RX6 yX6_thawFor wsX6_thawFor) := goodIn_app (goodIn_of _ (by decide +kernel)) ggX11_happen_X6_thawFor
set_option maxRecDepth 20000 in
theorem ggX11_happen_X6_nextWinter : GoodIn wsX11_happen wsX6_nextWinter := goodIn_r _ [42, 43, 199, 200, 201] (by decide +kernel) (by decide +kernel)
set_option maxRecDepth 20000 in
theorem gX11_happen_X6_nextWinter : GoodIn wsX11_happen (wsV RX11 114 RX6 yX6_nextWinter wsX6_nextWinter) := goodIn_app (goodIn_of _ (by decide +kernel)) ggX11_happen_X6_nextWinter
set_option maxRecDepth 20000 in
theorem ggX11_happen_X11_freezeDrawn : GoodIn wsX11_happen wsX11_freezeDrawn := goodIn_r _ [47, 1, 48, 49, 50, 9, 51, 52, 53, 54, 55, 56, 57, 58, 5, 59, 60, 43, 61, 62, 63, 64, 7, 8, 10, 65, 66, 67, 68, 69, 70, 71, 72, 14, 73, 16, 74, 75, 76, 34, 29, 77, 78, 79, 80, 81, 82, 83, 84, 85, 86, 87, 88, 89, 90, 91, 92, 93, 94, 95, 96, 97, 98, 99, 100, 101, 102, 103, 104, 105, 106, 107, 108, 109, 19, 110, 111, 112, 113, 114, 115, 116, 117, 118, 119, 120, 121, 122, 123, 124, 125, 126, 127, 128, 129, 130, 131, 132, 133, 134, 135, 136, 137, 138, 139, 140, 141, 142, 143, 144, 145, 146, 147, 148, 149, 150, 151, 152, 153, 154, 155, 156, 157, 158, 159, 160, 161, 162, 163, 164, 165, 166, 167, 168, 169, 170, 171, 172, 173, 174, 175, 176, 177, 178, 179, 180, 181, 182, 183, 184, 185, 186, 187, 188, 189, 190, 191, 192, 193, 194, 195, 196, 197, 198, 199, 200, 201, 202, 203, 204, 205, 206, 207, 208] (by decide +kernel) (by decide +kernel)
set_option maxRecDepth 20000 in
theorem gX11_happen_X11_freezeDrawn : GoodIn wsX11_happen (wsV RX11 311 RX11 yX11_freezeDrawn wsX11_freezeDrawn) := goodIn_app (goodIn_of _ (by decide +kernel)) ggX11_happen_X11_freezeDrawn
theorem dX11_happen_0 : decode cX11_happen 0 = .ok (.iload_n 1, 1) := by decide +kernel
theorem dX11_happen_1 : decode cX11_happen 1 = .ok (.iconst 2, 1) := by decide +kernel
theorem dX11_happen_2 : decode cX11_happen 2 = .ok (.if_icmp .ne 15, 3) := by decide +kernel
theorem dX11_happen_5 : decode cX11_happen 5 = .ok (.aload_n 0, 1) := by decide +kernel
theorem dX11_happen_6 : decode cX11_happen 6 = .ok (.getfield 49, 3) := by decide +kernel
theorem dX11_happen_9 : decode cX11_happen 9 = .ok (.iconst 1, 1) := by decide +kernel
theorem dX11_happen_10 : decode cX11_happen 10 = .ok (.invokevirtual 103, 3) := by decide +kernel
theorem dX11_happen_13 : decode cX11_happen 13 = .ok (.pop, 1) := by decide +kernel
theorem dX11_happen_14 : decode cX11_happen 14 = .ok (.goto 23, 3) := by decide +kernel
theorem dX11_happen_17 : decode cX11_happen 17 = .ok (.iload_n 1, 1) := by decide +kernel
theorem dX11_happen_18 : decode cX11_happen 18 = .ok (.iconst 3, 1) := by decide +kernel
theorem dX11_happen_19 : decode cX11_happen 19 = .ok (.if_icmp .ne 14, 3) := by decide +kernel
theorem dX11_happen_22 : decode cX11_happen 22 = .ok (.aload_n 0, 1) := by decide +kernel
theorem dX11_happen_23 : decode cX11_happen 23 = .ok (.getfield 49, 3) := by decide +kernel
theorem dX11_happen_26 : decode cX11_happen 26 = .ok (.invokevirtual 114, 3) := by decide +kernel
theorem dX11_happen_29 : decode cX11_happen 29 = .ok (.pop, 1) := by decide +kernel
theorem dX11_happen_30 : decode cX11_happen 30 = .ok (.goto 7, 3) := by decide +kernel
theorem dX11_happen_33 : decode cX11_happen 33 = .ok (.aload_n 0, 1) := by decide +kernel
theorem dX11_happen_34 : decode cX11_happen 34 = .ok (.invokevirtual 311, 3) := by decide +kernel
theorem dX11_happen_37 : decode cX11_happen 37 = .ok (.return_, 1) := by decide +kernel
set_option maxRecDepth 20000 in
theorem ggX11_freezeDrawn_X11_drawBelow : GoodIn wsX11_freezeDrawn wsX11_drawBelow := goodIn_r _ [6, 7, 8, 9, 10, 155, 156, 157, 158, 159, 160, 161, 162, 163] (by decide +kernel) (by decide +kernel)
set_option maxRecDepth 20000 in
theorem gX11_freezeDrawn_X11_drawBelow : GoodIn wsX11_freezeDrawn (wsV RX11 206 RX11 yX11_drawBelow wsX11_drawBelow) := goodIn_app (goodIn_of _ (by decide +kernel)) ggX11_freezeDrawn_X11_drawBelow
set_option maxRecDepth 20000 in
theorem ggX11_freezeDrawn_X6_freezeIn : GoodIn wsX11_freezeDrawn wsX6_freezeIn := goodIn_r _ [15, 16, 17, 18, 19, 20, 14, 21, 22, 23, 5, 24, 25, 26, 27, 28, 29, 30, 31, 32, 33, 34, 35, 36, 37, 38, 39, 40, 41, 42, 43, 44, 45, 46, 47, 48, 49, 50, 51, 52, 53, 54, 55, 56, 57, 58, 59, 60, 61, 62, 63, 64, 65, 66, 67, 68, 69, 70, 71, 72, 73, 74, 75, 76, 77, 78, 79, 80, 81, 82, 83, 84, 85, 86, 87, 88, 89, 90, 91, 92, 93, 94, 95, 96, 97, 98, 99, 100, 101, 102, 103, 104, 105, 106, 107, 108, 109, 110, 111, 112, 113, 114, 115, 116, 117, 118, 119, 120, 121, 122, 123, 124, 125, 126, 127, 128, 129, 130, 131, 132, 133, 134, 135, 136, 137, 138, 139, 140, 141, 142, 143, 144, 145, 146, 147, 148, 149, 150, 151, 152, 153, 154, 164, 165, 166, 167, 168, 169, 170, 171, 172, 173] (by decide +kernel) (by decide +kernel)
set_option maxRecDepth 20000 in
theorem gX11_freezeDrawn_X6_freezeIn : GoodIn wsX11_freezeDrawn (wsV RX11 99 RX6 yX6_freezeIn wsX6_freezeIn) := goodIn_app (goodIn_of _ (by decide +kernel)) ggX11_freezeDrawn_X6_freezeIn
theorem dX11_freezeDrawn_0 : decode cX11_freezeDrawn 0 = .ok (.aload_n 0, 1) := by decide +kernel
theorem dX11_freezeDrawn_1 : decode cX11_freezeDrawn 1 = .ok (.bipush 6, 2) := by decide +kernel
theorem dX11_freezeDrawn_3 : decode cX11_freezeDrawn 3 = .ok (.invokevirtual 206, 3) := by decide +kernel
theorem dX11_freezeDrawn_6 : decode cX11_freezeDrawn 6 = .ok (.istore_n 1, 1) := by decide +kernel
theorem dX11_freezeDrawn_7 : decode cX11_freezeDrawn 7 = .ok (.aload_n 0, 1) := by decide +kernel
theorem dX11_freezeDrawn_8 : decode cX11_freezeDrawn 8 = .ok (.bipush 8, 2) := by decide +kernel
theorem dX11_freezeDrawn_10 : decode cX11_freezeDrawn 10 = .ok (.invokevirtual 206, 3) := by decide +kernel
theorem dX11_freezeDrawn_13 : decode cX11_freezeDrawn 13 = .ok (.istore_n 2, 1) := by decide +kernel
theorem dX11_freezeDrawn_14 : decode cX11_freezeDrawn 14 = .ok (.aload_n 0, 1) := by decide +kernel
theorem dX11_freezeDrawn_15 : decode cX11_freezeDrawn 15 = .ok (.bipush 10, 2) := by decide +kernel
theorem dX11_freezeDrawn_17 : decode cX11_freezeDrawn 17 = .ok (.invokevirtual 206, 3) := by decide +kernel
theorem dX11_freezeDrawn_20 : decode cX11_freezeDrawn 20 = .ok (.istore_n 3, 1) := by decide +kernel
theorem dX11_freezeDrawn_21 : decode cX11_freezeDrawn 21 = .ok (.aload_n 0, 1) := by decide +kernel
theorem dX11_freezeDrawn_22 : decode cX11_freezeDrawn 22 = .ok (.bipush 9, 2) := by decide +kernel
theorem dX11_freezeDrawn_24 : decode cX11_freezeDrawn 24 = .ok (.invokevirtual 206, 3) := by decide +kernel
theorem dX11_freezeDrawn_27 : decode cX11_freezeDrawn 27 = .ok (.iconst 1, 1) := by decide +kernel
theorem dX11_freezeDrawn_28 : decode cX11_freezeDrawn 28 = .ok (.iadd, 1) := by decide +kernel
theorem dX11_freezeDrawn_29 : decode cX11_freezeDrawn 29 = .ok (.istore 4, 2) := by decide +kernel
theorem dX11_freezeDrawn_31 : decode cX11_freezeDrawn 31 = .ok (.aload_n 0, 1) := by decide +kernel
theorem dX11_freezeDrawn_32 : decode cX11_freezeDrawn 32 = .ok (.getfield 49, 3) := by decide +kernel
theorem dX11_freezeDrawn_35 : decode cX11_freezeDrawn 35 = .ok (.iload_n 1, 1) := by decide +kernel
theorem dX11_freezeDrawn_36 : decode cX11_freezeDrawn 36 = .ok (.iload_n 2, 1) := by decide +kernel
theorem dX11_freezeDrawn_37 : decode cX11_freezeDrawn 37 = .ok (.iload_n 3, 1) := by decide +kernel
theorem dX11_freezeDrawn_38 : decode cX11_freezeDrawn 38 = .ok (.iload 4, 2) := by decide +kernel
theorem dX11_freezeDrawn_40 : decode cX11_freezeDrawn 40 = .ok (.invokevirtual 99, 3) := by decide +kernel
theorem dX11_freezeDrawn_43 : decode cX11_freezeDrawn 43 = .ok (.pop, 1) := by decide +kernel
theorem dX11_freezeDrawn_44 : decode cX11_freezeDrawn 44 = .ok (.return_, 1) := by decide +kernel
theorem dX11_drawBelow_0 : decode cX11_drawBelow 0 = .ok (.aload_n 0, 1) := by decide +kernel
theorem dX11_drawBelow_1 : decode cX11_drawBelow 1 = .ok (.aload_n 0, 1) := by decide +kernel
theorem dX11_drawBelow_2 : decode cX11_drawBelow 2 = .ok (.getfield 203, 3) := by decide +kernel
theorem dX11_drawBelow_5 : decode cX11_drawBelow 5 = .ok (.ldc_w 314, 3) := by decide +kernel
theorem dX11_drawBelow_8 : decode cX11_drawBelow 8 = .ok (.imul, 1) := by decide +kernel
theorem dX11_drawBelow_9 : decode cX11_drawBelow 9 = .ok (.sipush 12345, 3) := by decide +kernel
theorem dX11_drawBelow_12 : decode cX11_drawBelow 12 = .ok (.iadd, 1) := by decide +kernel
theorem dX11_drawBelow_13 : decode cX11_drawBelow 13 = .ok (.putfield 203, 3) := by decide +kernel
theorem dX11_drawBelow_16 : decode cX11_drawBelow 16 = .ok (.iload_n 1, 1) := by decide +kernel
theorem dX11_drawBelow_17 : decode cX11_drawBelow 17 = .ok (.iconst 1, 1) := by decide +kernel
theorem dX11_drawBelow_18 : decode cX11_drawBelow 18 = .ok (.if_icmp .ge 7, 3) := by decide +kernel
theorem dX11_drawBelow_21 : decode cX11_drawBelow 21 = .ok (.iconst 0, 1) := by decide +kernel
theorem dX11_drawBelow_22 : decode cX11_drawBelow 22 = .ok (.goto 17, 3) := by decide +kernel
theorem dX11_drawBelow_25 : decode cX11_drawBelow 25 = .ok (.aload_n 0, 1) := by decide +kernel
theorem dX11_drawBelow_26 : decode cX11_drawBelow 26 = .ok (.getfield 203, 3) := by decide +kernel
theorem dX11_drawBelow_29 : decode cX11_drawBelow 29 = .ok (.ldc_w 315, 3) := by decide +kernel
theorem dX11_drawBelow_32 : decode cX11_drawBelow 32 = .ok (.iand, 1) := by decide +kernel
theorem dX11_drawBelow_33 : decode cX11_drawBelow 33 = .ok (.ldc_w 316, 3) := by decide +kernel
theorem dX11_drawBelow_36 : decode cX11_drawBelow 36 = .ok (.idiv, 1) := by decide +kernel
theorem dX11_drawBelow_37 : decode cX11_drawBelow 37 = .ok (.iload_n 1, 1) := by decide +kernel
theorem dX11_drawBelow_38 : decode cX11_drawBelow 38 = .ok (.irem, 1) := by decide +kernel
theorem dX11_drawBelow_39 : decode cX11_drawBelow 39 = .ok (.ireturn, 1) := by decide +kernel
set_option maxRecDepth 20000 in
theorem ggX11_firstWrong_X9_valueAt : GoodIn wsX11_firstWrong wsX9_valueAt := goodIn_r _ [10, 11, 12, 13, 14, 9, 15, 16, 51, 52, 53, 54, 55, 56] (by decide +kernel) (by decide +kernel)
set_option maxRecDepth 20000 in
theorem gX11_firstWrong_X9_valueAt : GoodIn wsX11_firstWrong (wsV RX11 281 RX9 yX9_valueAt wsX9_valueAt) := goodIn_app (goodIn_of _ (by decide +kernel)) ggX11_firstWrong_X9_valueAt
set_option maxRecDepth 20000 in
theorem ggX11_firstWrong_X6_cellAt : GoodIn wsX11_firstWrong wsX6_cellAt := goodIn_r _ [21, 22, 23, 24, 25, 66, 67, 68] (by decide +kernel) (by decide +kernel)
set_option maxRecDepth 20000 in
theorem gX11_firstWrong_X6_cellAt : GoodIn wsX11_firstWrong (wsV RX11 85 RX6 yX6_cellAt wsX6_cellAt) := goodIn_app (goodIn_of _ (by decide +kernel)) ggX11_firstWrong_X6_cellAt
set_option maxRecDepth 20000 in
theorem ggX11_firstWrong_X9_leastNumber : GoodIn wsX11_firstWrong wsX9_leastNumber := goodIn_r _ [29, 30, 31, 51, 52, 53, 54, 55, 56] (by decide +kernel) (by decide +kernel)
set_option maxRecDepth 20000 in
theorem gX11_firstWrong_X9_leastNumber : GoodIn wsX11_firstWrong (wsV RX11 317 RX9 yX9_leastNumber wsX9_leastNumber) := goodIn_app (goodIn_of _ (by decide +kernel)) ggX11_firstWrong_X9_leastNumber
set_option maxRecDepth 20000 in
theorem ggX11_firstWrong_X2_ice : GoodIn wsX11_firstWrong wsX2_ice := goodIn_r _ [36, 37, 38, 39, 35, 40, 41, 42, 43, 44, 45, 46, 47, 48, 49, 50, 69, 70, 71, 72, 73, 74, 75] (by decide +kernel) (by decide +kernel)
set_option maxRecDepth 20000 in
theorem gX11_firstWrong_X2_ice : GoodIn wsX11_firstWrong (wsV RX11 129 RX2 yX2_ice wsX2_ice) := goodIn_app (goodIn_of _ (by decide +kernel)) ggX11_firstWrong_X2_ice
theorem dX11_firstWrong_0 : decode cX11_firstWrong 0 = .ok (.iconst 0, 1) := by decide +kernel
theorem dX11_firstWrong_1 : decode cX11_firstWrong 1 = .ok (.istore_n 2, 1) := by decide +kernel
theorem dX11_firstWrong_2 : decode cX11_firstWrong 2 = .ok (.iload_n 2, 1) := by decide +kernel
theorem dX11_firstWrong_3 : decode cX11_firstWrong 3 = .ok (.bipush 6, 2) := by decide +kernel
theorem dX11_firstWrong_5 : decode cX11_firstWrong 5 = .ok (.if_icmp .ge 57, 3) := by decide +kernel
theorem dX11_firstWrong_8 : decode cX11_firstWrong 8 = .ok (.iload_n 2, 1) := by decide +kernel
theorem dX11_firstWrong_9 : decode cX11_firstWrong 9 = .ok (.aload_n 1, 1) := by decide +kernel
theorem dX11_firstWrong_10 : decode cX11_firstWrong 10 = .ok (.getfield 290, 3) := by decide +kernel
theorem dX11_firstWrong_13 : decode cX11_firstWrong 13 = .ok (.if_icmp .ge 49, 3) := by decide +kernel
theorem dX11_firstWrong_16 : decode cX11_firstWrong 16 = .ok (.aload_n 1, 1) := by decide +kernel
theorem dX11_firstWrong_17 : decode cX11_firstWrong 17 = .ok (.iload_n 2, 1) := by decide +kernel
theorem dX11_firstWrong_18 : decode cX11_firstWrong 18 = .ok (.invokevirtual 281, 3) := by decide +kernel
theorem dX11_firstWrong_21 : decode cX11_firstWrong 21 = .ok (.istore_n 3, 1) := by decide +kernel
theorem dX11_firstWrong_22 : decode cX11_firstWrong 22 = .ok (.aload_n 0, 1) := by decide +kernel
theorem dX11_firstWrong_23 : decode cX11_firstWrong 23 = .ok (.getfield 42, 3) := by decide +kernel
theorem dX11_firstWrong_26 : decode cX11_firstWrong 26 = .ok (.iload_n 2, 1) := by decide +kernel
theorem dX11_firstWrong_27 : decode cX11_firstWrong 27 = .ok (.invokevirtual 85, 3) := by decide +kernel
theorem dX11_firstWrong_30 : decode cX11_firstWrong 30 = .ok (.astore 4, 2) := by decide +kernel
theorem dX11_firstWrong_32 : decode cX11_firstWrong 32 = .ok (.iload_n 3, 1) := by decide +kernel
theorem dX11_firstWrong_33 : decode cX11_firstWrong 33 = .ok (.aload_n 1, 1) := by decide +kernel
theorem dX11_firstWrong_34 : decode cX11_firstWrong 34 = .ok (.invokevirtual 317, 3) := by decide +kernel
theorem dX11_firstWrong_37 : decode cX11_firstWrong 37 = .ok (.if_icmp .eq 19, 3) := by decide +kernel
theorem dX11_firstWrong_40 : decode cX11_firstWrong 40 = .ok (.aload 4, 2) := by decide +kernel
theorem dX11_firstWrong_42 : decode cX11_firstWrong 42 = .ok (.ifnull 14, 3) := by decide +kernel
theorem dX11_firstWrong_45 : decode cX11_firstWrong 45 = .ok (.iload_n 3, 1) := by decide +kernel
theorem dX11_firstWrong_46 : decode cX11_firstWrong 46 = .ok (.aload 4, 2) := by decide +kernel
theorem dX11_firstWrong_48 : decode cX11_firstWrong 48 = .ok (.invokevirtual 129, 3) := by decide +kernel
theorem dX11_firstWrong_51 : decode cX11_firstWrong 51 = .ok (.if_icmp .eq 5, 3) := by decide +kernel
theorem dX11_firstWrong_54 : decode cX11_firstWrong 54 = .ok (.iload_n 2, 1) := by decide +kernel
theorem dX11_firstWrong_55 : decode cX11_firstWrong 55 = .ok (.ireturn, 1) := by decide +kernel
theorem dX11_firstWrong_56 : decode cX11_firstWrong 56 = .ok (.iinc 2 1, 3) := by decide +kernel
theorem dX11_firstWrong_59 : decode cX11_firstWrong 59 = .ok (.goto (-57), 3) := by decide +kernel
theorem dX11_firstWrong_62 : decode cX11_firstWrong 62 = .ok (.aload_n 1, 1) := by decide +kernel
theorem dX11_firstWrong_63 : decode cX11_firstWrong 63 = .ok (.getfield 290, 3) := by decide +kernel
theorem dX11_firstWrong_66 : decode cX11_firstWrong 66 = .ok (.bipush 6, 2) := by decide +kernel
theorem dX11_firstWrong_68 : decode cX11_firstWrong 68 = .ok (.if_icmp .ne 8, 3) := by decide +kernel
theorem dX11_firstWrong_71 : decode cX11_firstWrong 71 = .ok (.bipush (-4), 2) := by decide +kernel
theorem dX11_firstWrong_73 : decode cX11_firstWrong 73 = .ok (.goto 12, 3) := by decide +kernel
theorem dX11_firstWrong_76 : decode cX11_firstWrong 76 = .ok (.aload_n 1, 1) := by decide +kernel
theorem dX11_firstWrong_77 : decode cX11_firstWrong 77 = .ok (.getfield 290, 3) := by decide +kernel
theorem dX11_firstWrong_80 : decode cX11_firstWrong 80 = .ok (.bipush 6, 2) := by decide +kernel
theorem dX11_firstWrong_82 : decode cX11_firstWrong 82 = .ok (.invokestatic 308, 3) := by decide +kernel
theorem dX11_firstWrong_85 : decode cX11_firstWrong 85 = .ok (.ireturn, 1) := by decide +kernel
set_option maxRecDepth 20000 in
theorem ggX11_caughtFailure_X7_fail : GoodIn wsX11_caughtFailure wsX7_fail := goodIn_ca (goodIn_r _ [9, 10, 11] (by decide +kernel) (by decide +kernel)) (goodIn_sub (fun _ h => List.mem_cons_of_mem _ (List.mem_append_left _ (List.mem_append_left _ (List.mem_append_right _ h)))) (by decide +kernel))
set_option maxRecDepth 20000 in
theorem gX11_caughtFailure_X7_fail_u320X0 : GoodIn wsX11_caughtFailure (va_wsU RX11 320 RX0 "SaidInWinter$Layer" ⟨"SaidInWinter$Layer", "fail", "()V"⟩ yX7_fail wsX7_fail) := goodIn_app (goodIn_of _ (by decide +kernel)) ggX11_caughtFailure_X7_fail
set_option maxRecDepth 20000 in
theorem ggX11_caughtFailure_X1_fail : GoodIn wsX11_caughtFailure wsX1_fail := goodIn_ca (goodIn_r _ [16, 17, 18] (by decide +kernel) (by decide +kernel)) (goodIn_sub (fun _ h => List.mem_cons_of_mem _ (List.mem_append_left _ (List.mem_append_right _ h))) (by decide +kernel))
set_option maxRecDepth 20000 in
theorem gX11_caughtFailure_X1_fail_u320X1 : GoodIn wsX11_caughtFailure (va_wsO RX11 320 RX1 "SaidInWinter$Layer" ⟨"SaidInWinter$Layer", "fail", "()V"⟩ yX1_fail wsX1_fail) := goodIn_app (goodIn_of _ (by decide +kernel)) ggX11_caughtFailure_X1_fail
set_option maxRecDepth 20000 in
theorem gX11_caughtFailure_X7_fail_u320X3 : GoodIn wsX11_caughtFailure (va_wsU RX11 320 RX3 "SaidInWinter$Layer" ⟨"SaidInWinter$Layer", "fail", "()V"⟩ yX7_fail wsX7_fail) := goodIn_app (goodIn_of _ (by decide +kernel)) ggX11_caughtFailure_X7_fail
set_option maxRecDepth 20000 in
theorem gX11_caughtFailure_X7_fail_u320X4 : GoodIn wsX11_caughtFailure (va_wsU RX11 320 RX4 "SaidInWinter$Layer" ⟨"SaidInWinter$Layer", "fail", "()V"⟩ yX7_fail wsX7_fail) := goodIn_app (goodIn_of _ (by decide +kernel)) ggX11_caughtFailure_X7_fail
set_option maxRecDepth 20000 in
theorem ggX11_caughtFailure_X5_fail : GoodIn wsX11_caughtFailure wsX5_fail := goodIn_r _ [24] (by decide +kernel) (by decide +kernel)
set_option maxRecDepth 20000 in
theorem gX11_caughtFailure_X5_fail_u320X5 : GoodIn wsX11_caughtFailure (va_wsO RX11 320 RX5 "SaidInWinter$Layer" ⟨"SaidInWinter$Layer", "fail", "()V"⟩ yX5_fail wsX5_fail) := goodIn_app (goodIn_of _ (by decide +kernel)) ggX11_caughtFailure_X5_fail
set_option maxRecDepth 20000 in
theorem gX11_caughtFailure_X7_fail : GoodIn wsX11_caughtFailure (wsV RX11 320 RX7 yX7_fail wsX7_fail) := goodIn_app (goodIn_of _ (by decide +kernel)) ggX11_caughtFailure_X7_fail
set_option maxRecDepth 20000 in
theorem ggX11_caughtFailure_X8_fail : GoodIn wsX11_caughtFailure wsX8_fail := goodIn_ca (goodIn_r _ [30, 31, 32] (by decide +kernel) (by decide +kernel)) (goodIn_sub (fun _ h => List.mem_cons_of_mem _ (List.mem_append_right _ h)) (by decide +kernel))
set_option maxRecDepth 20000 in
theorem gX11_caughtFailure_X8_fail_u320X8 : GoodIn wsX11_caughtFailure (va_wsO RX11 320 RX8 "SaidInWinter$Layer" ⟨"SaidInWinter$Layer", "fail", "()V"⟩ yX8_fail wsX8_fail) := goodIn_app (goodIn_of _ (by decide +kernel)) ggX11_caughtFailure_X8_fail
set_option maxRecDepth 20000 in
theorem gX11_caughtFailure_X7_fail_u320X10 : GoodIn wsX11_caughtFailure (va_wsU RX11 320 RX10 "SaidInWinter$Layer" ⟨"SaidInWinter$Layer", "fail", "()V"⟩ yX7_fail wsX7_fail) := goodIn_app (goodIn_of _ (by decide +kernel)) ggX11_caughtFailure_X7_fail
set_option maxRecDepth 20000 in
theorem ggX11_caughtFailure_X0_tollWith : GoodIn wsX11_caughtFailure wsX0_tollWith := goodIn_r _ [40, 41, 42, 43, 44, 45, 46, 47, 35, 48, 49, 8, 50] (by decide +kernel) (by decide +kernel)
set_option maxRecDepth 20000 in
theorem gX11_caughtFailure_X0_tollWith_u274X0 : GoodIn wsX11_caughtFailure (va_wsO RX11 274 RX0 "SaidInWinter$Layer" ⟨"SaidInWinter$Layer", "tollWith", "(I)I"⟩ yX0_tollWith wsX0_tollWith) := goodIn_app (goodIn_of _ (by decide +kernel)) ggX11_caughtFailure_X0_tollWith
set_option maxRecDepth 20000 in
theorem ggX11_caughtFailure_X1_tollWith : GoodIn wsX11_caughtFailure wsX1_tollWith := goodIn_r _ [53, 54, 42, 55, 44, 45, 46, 47, 35, 48, 49, 8, 50] (by decide +kernel) (by decide +kernel)
set_option maxRecDepth 20000 in
theorem gX11_caughtFailure_X1_tollWith_u274X1 : GoodIn wsX11_caughtFailure (va_wsO RX11 274 RX1 "SaidInWinter$Layer" ⟨"SaidInWinter$Layer", "tollWith", "(I)I"⟩ yX1_tollWith wsX1_tollWith) := goodIn_app (goodIn_of _ (by decide +kernel)) ggX11_caughtFailure_X1_tollWith
set_option maxRecDepth 20000 in
theorem ggX11_caughtFailure_X3_tollWith : GoodIn wsX11_caughtFailure wsX3_tollWith := goodIn_r _ [46, 47, 35, 48, 49, 8, 50] (by decide +kernel) (by decide +kernel)
set_option maxRecDepth 20000 in
theorem gX11_caughtFailure_X3_tollWith_u274X3 : GoodIn wsX11_caughtFailure (va_wsO RX11 274 RX3 "SaidInWinter$Layer" ⟨"SaidInWinter$Layer", "tollWith", "(I)I"⟩ yX3_tollWith wsX3_tollWith) := goodIn_app (goodIn_of _ (by decide +kernel)) ggX11_caughtFailure_X3_tollWith
set_option maxRecDepth 20000 in
theorem ggX11_caughtFailure_X4_tollWith : GoodIn wsX11_caughtFailure wsX4_tollWith := goodIn_r _ [60, 61, 62, 63, 64, 65, 66, 67, 35, 68, 49, 8, 50] (by decide +kernel) (by decide +kernel)
set_option maxRecDepth 20000 in
theorem gX11_caughtFailure_X4_tollWith_u274X4 : GoodIn wsX11_caughtFailure (va_wsO RX11 274 RX4 "SaidInWinter$Layer" ⟨"SaidInWinter$Layer", "tollWith", "(I)I"⟩ yX4_tollWith wsX4_tollWith) := goodIn_app (goodIn_of _ (by decide +kernel)) ggX11_caughtFailure_X4_tollWith
set_option maxRecDepth 20000 in
theorem ggX11_caughtFailure_X5_tollWith : GoodIn wsX11_caughtFailure wsX5_tollWith := goodIn_r _ [71, 72, 35, 73, 49, 8, 50] (by decide +kernel) (by decide +kernel)
set_option maxRecDepth 20000 in
theorem gX11_caughtFailure_X5_tollWith_u274X5 : GoodIn wsX11_caughtFailure (va_wsO RX11 274 RX5 "SaidInWinter$Layer" ⟨"SaidInWinter$Layer", "tollWith", "(I)I"⟩ yX5_tollWith wsX5_tollWith) := goodIn_app (goodIn_of _ (by decide +kernel)) ggX11_caughtFailure_X5_tollWith
set_option maxRecDepth 20000 in
theorem ggX11_caughtFailure_X7_tollWith : GoodIn wsX11_caughtFailure wsX7_tollWith := goodIn_r _ [50] (by decide +kernel) (by decide +kernel)
set_option maxRecDepth 20000 in
theorem gX11_caughtFailure_X7_tollWith : GoodIn wsX11_caughtFailure (wsV RX11 274 RX7 yX7_tollWith wsX7_tollWith) := goodIn_app (goodIn_of _ (by decide +kernel)) ggX11_caughtFailure_X7_tollWith
set_option maxRecDepth 20000 in
theorem ggX11_caughtFailure_X8_tollWith : GoodIn wsX11_caughtFailure wsX8_tollWith := goodIn_r _ [78, 79, 62, 80, 64, 65, 66, 67, 35, 68, 49, 8, 50] (by decide +kernel) (by decide +kernel)
set_option maxRecDepth 20000 in
theorem gX11_caughtFailure_X8_tollWith_u274X8 : GoodIn wsX11_caughtFailure (va_wsO RX11 274 RX8 "SaidInWinter$Layer" ⟨"SaidInWinter$Layer", "tollWith", "(I)I"⟩ yX8_tollWith wsX8_tollWith) := goodIn_app (goodIn_of _ (by decide +kernel)) ggX11_caughtFailure_X8_tollWith
set_option maxRecDepth 20000 in
theorem ggX11_caughtFailure_X10_tollWith : GoodIn wsX11_caughtFailure wsX10_tollWith := goodIn_r _ [66, 67, 35, 68, 49, 8, 50] (by decide +kernel) (by decide +kernel)
set_option maxRecDepth 20000 in
theorem gX11_caughtFailure_X10_tollWith_u274X10 : GoodIn wsX11_caughtFailure (va_wsO RX11 274 RX10 "SaidInWinter$Layer" ⟨"SaidInWinter$Layer", "tollWith", "(I)I"⟩ yX10_tollWith wsX10_tollWith) := goodIn_app (goodIn_of _ (by decide +kernel)) ggX11_caughtFailure_X10_tollWith
theorem dX11_caughtFailure_0 : decode cX11_caughtFailure 0 = .ok (.iload_n 1, 1) := by decide +kernel
theorem dX11_caughtFailure_1 : decode cX11_caughtFailure 1 = .ok (.ifCond .ne 6, 3) := by decide +kernel
theorem dX11_caughtFailure_4 : decode cX11_caughtFailure 4 = .ok (.bipush (-15), 2) := by decide +kernel
theorem dX11_caughtFailure_6 : decode cX11_caughtFailure 6 = .ok (.ireturn, 1) := by decide +kernel
theorem dX11_caughtFailure_7 : decode cX11_caughtFailure 7 = .ok (.aload_n 0, 1) := by decide +kernel
theorem dX11_caughtFailure_8 : decode cX11_caughtFailure 8 = .ok (.invokevirtual 320, 3) := by decide +kernel
theorem dX11_caughtFailure_11 : decode cX11_caughtFailure 11 = .ok (.goto 23, 3) := by decide +kernel
theorem dX11_caughtFailure_14 : decode cX11_caughtFailure 14 = .ok (.astore_n 2, 1) := by decide +kernel
theorem dX11_caughtFailure_15 : decode cX11_caughtFailure 15 = .ok (.iload_n 1, 1) := by decide +kernel
theorem dX11_caughtFailure_16 : decode cX11_caughtFailure 16 = .ok (.ireturn, 1) := by decide +kernel
theorem dX11_caughtFailure_17 : decode cX11_caughtFailure 17 = .ok (.astore_n 2, 1) := by decide +kernel
theorem dX11_caughtFailure_18 : decode cX11_caughtFailure 18 = .ok (.bipush 100, 2) := by decide +kernel
theorem dX11_caughtFailure_20 : decode cX11_caughtFailure 20 = .ok (.iload_n 1, 1) := by decide +kernel
theorem dX11_caughtFailure_21 : decode cX11_caughtFailure 21 = .ok (.iadd, 1) := by decide +kernel
theorem dX11_caughtFailure_22 : decode cX11_caughtFailure 22 = .ok (.ireturn, 1) := by decide +kernel
theorem dX11_caughtFailure_23 : decode cX11_caughtFailure 23 = .ok (.astore_n 2, 1) := by decide +kernel
theorem dX11_caughtFailure_24 : decode cX11_caughtFailure 24 = .ok (.sipush 200, 3) := by decide +kernel
theorem dX11_caughtFailure_27 : decode cX11_caughtFailure 27 = .ok (.aload_n 0, 1) := by decide +kernel
theorem dX11_caughtFailure_28 : decode cX11_caughtFailure 28 = .ok (.iload_n 1, 1) := by decide +kernel
theorem dX11_caughtFailure_29 : decode cX11_caughtFailure 29 = .ok (.invokevirtual 274, 3) := by decide +kernel
theorem dX11_caughtFailure_32 : decode cX11_caughtFailure 32 = .ok (.iadd, 1) := by decide +kernel
theorem dX11_caughtFailure_33 : decode cX11_caughtFailure 33 = .ok (.ireturn, 1) := by decide +kernel
theorem dX11_caughtFailure_34 : decode cX11_caughtFailure 34 = .ok (.bipush (-15), 2) := by decide +kernel
theorem dX11_caughtFailure_36 : decode cX11_caughtFailure 36 = .ok (.ireturn, 1) := by decide +kernel
