theorem dX12_init_0 : decode cX12_init 0 = .ok (.aload_n 0, 1) := by decide +kernel
theorem dX12_init_1 : decode cX12_init 1 = .ok (.invokespecial 1, 3) := by decide +kernel
theorem dX12_init_4 : decode cX12_init 4 = .ok (.aload_n 0, 1) := by decide +kernel
theorem dX12_init_5 : decode cX12_init 5 = .ok (.bipush 6, 2) := by decide +kernel
theorem dX12_init_7 : decode cX12_init 7 = .ok (.newarray .int, 2) := by decide +kernel
theorem dX12_init_9 : decode cX12_init 9 = .ok (.putfield 7, 3) := by decide +kernel
theorem dX12_init_12 : decode cX12_init 12 = .ok (.aload_n 0, 1) := by decide +kernel
theorem dX12_init_13 : decode cX12_init 13 = .ok (.bipush 48, 2) := by decide +kernel
theorem dX12_init_15 : decode cX12_init 15 = .ok (.newarray .int, 2) := by decide +kernel
theorem dX12_init_17 : decode cX12_init 17 = .ok (.putfield 13, 3) := by decide +kernel
theorem dX12_init_20 : decode cX12_init 20 = .ok (.aload_n 0, 1) := by decide +kernel
theorem dX12_init_21 : decode cX12_init 21 = .ok (.bipush 48, 2) := by decide +kernel
theorem dX12_init_23 : decode cX12_init 23 = .ok (.newarray .int, 2) := by decide +kernel
theorem dX12_init_25 : decode cX12_init 25 = .ok (.putfield 16, 3) := by decide +kernel
theorem dX12_init_28 : decode cX12_init 28 = .ok (.aload_n 0, 1) := by decide +kernel
theorem dX12_init_29 : decode cX12_init 29 = .ok (.bipush 48, 2) := by decide +kernel
theorem dX12_init_31 : decode cX12_init 31 = .ok (.newarray .int, 2) := by decide +kernel
theorem dX12_init_33 : decode cX12_init 33 = .ok (.putfield 19, 3) := by decide +kernel
theorem dX12_init_36 : decode cX12_init 36 = .ok (.aload_n 0, 1) := by decide +kernel
theorem dX12_init_37 : decode cX12_init 37 = .ok (.bipush 48, 2) := by decide +kernel
theorem dX12_init_39 : decode cX12_init 39 = .ok (.newarray .int, 2) := by decide +kernel
theorem dX12_init_41 : decode cX12_init 41 = .ok (.putfield 22, 3) := by decide +kernel
theorem dX12_init_44 : decode cX12_init 44 = .ok (.aload_n 0, 1) := by decide +kernel
theorem dX12_init_45 : decode cX12_init 45 = .ok (.sipush 199, 3) := by decide +kernel
theorem dX12_init_48 : decode cX12_init 48 = .ok (.newarray .int, 2) := by decide +kernel
theorem dX12_init_50 : decode cX12_init 50 = .ok (.putfield 25, 3) := by decide +kernel
theorem dX12_init_53 : decode cX12_init 53 = .ok (.aload_n 0, 1) := by decide +kernel
theorem dX12_init_54 : decode cX12_init 54 = .ok (.sipush 199, 3) := by decide +kernel
theorem dX12_init_57 : decode cX12_init 57 = .ok (.newarray .int, 2) := by decide +kernel
theorem dX12_init_59 : decode cX12_init 59 = .ok (.putfield 28, 3) := by decide +kernel
theorem dX12_init_62 : decode cX12_init 62 = .ok (.aload_n 0, 1) := by decide +kernel
theorem dX12_init_63 : decode cX12_init 63 = .ok (.bipush 51, 2) := by decide +kernel
theorem dX12_init_65 : decode cX12_init 65 = .ok (.newarray .int, 2) := by decide +kernel
theorem dX12_init_67 : decode cX12_init 67 = .ok (.putfield 31, 3) := by decide +kernel
theorem dX12_init_70 : decode cX12_init 70 = .ok (.aload_n 0, 1) := by decide +kernel
theorem dX12_init_71 : decode cX12_init 71 = .ok (.bipush 51, 2) := by decide +kernel
theorem dX12_init_73 : decode cX12_init 73 = .ok (.newarray .int, 2) := by decide +kernel
theorem dX12_init_75 : decode cX12_init 75 = .ok (.putfield 34, 3) := by decide +kernel
theorem dX12_init_78 : decode cX12_init 78 = .ok (.aload_n 0, 1) := by decide +kernel
theorem dX12_init_79 : decode cX12_init 79 = .ok (.sipush 204, 3) := by decide +kernel
theorem dX12_init_82 : decode cX12_init 82 = .ok (.newarray .int, 2) := by decide +kernel
theorem dX12_init_84 : decode cX12_init 84 = .ok (.putfield 37, 3) := by decide +kernel
theorem dX12_init_87 : decode cX12_init 87 = .ok (.aload_n 0, 1) := by decide +kernel
theorem dX12_init_88 : decode cX12_init 88 = .ok (.bipush 8, 2) := by decide +kernel
theorem dX12_init_90 : decode cX12_init 90 = .ok (.newarray .int, 2) := by decide +kernel
theorem dX12_init_92 : decode cX12_init 92 = .ok (.putfield 40, 3) := by decide +kernel
theorem dX12_init_95 : decode cX12_init 95 = .ok (.aload_n 0, 1) := by decide +kernel
theorem dX12_init_96 : decode cX12_init 96 = .ok (.bipush 8, 2) := by decide +kernel
theorem dX12_init_98 : decode cX12_init 98 = .ok (.newarray .int, 2) := by decide +kernel
theorem dX12_init_100 : decode cX12_init 100 = .ok (.putfield 43, 3) := by decide +kernel
theorem dX12_init_103 : decode cX12_init 103 = .ok (.aload_n 0, 1) := by decide +kernel
theorem dX12_init_104 : decode cX12_init 104 = .ok (.bipush 8, 2) := by decide +kernel
theorem dX12_init_106 : decode cX12_init 106 = .ok (.newarray .int, 2) := by decide +kernel
theorem dX12_init_108 : decode cX12_init 108 = .ok (.putfield 46, 3) := by decide +kernel
theorem dX12_init_111 : decode cX12_init 111 = .ok (.aload_n 0, 1) := by decide +kernel
theorem dX12_init_112 : decode cX12_init 112 = .ok (.bipush 8, 2) := by decide +kernel
theorem dX12_init_114 : decode cX12_init 114 = .ok (.newarray .int, 2) := by decide +kernel
theorem dX12_init_116 : decode cX12_init 116 = .ok (.putfield 49, 3) := by decide +kernel
theorem dX12_init_119 : decode cX12_init 119 = .ok (.aload_n 0, 1) := by decide +kernel
theorem dX12_init_120 : decode cX12_init 120 = .ok (.bipush 8, 2) := by decide +kernel
theorem dX12_init_122 : decode cX12_init 122 = .ok (.newarray .int, 2) := by decide +kernel
theorem dX12_init_124 : decode cX12_init 124 = .ok (.putfield 52, 3) := by decide +kernel
theorem dX12_init_127 : decode cX12_init 127 = .ok (.aload_n 0, 1) := by decide +kernel
theorem dX12_init_128 : decode cX12_init 128 = .ok (.sipush 800, 3) := by decide +kernel
theorem dX12_init_131 : decode cX12_init 131 = .ok (.newarray .long, 2) := by decide +kernel
theorem dX12_init_133 : decode cX12_init 133 = .ok (.putfield 55, 3) := by decide +kernel
theorem dX12_init_136 : decode cX12_init 136 = .ok (.aload_n 0, 1) := by decide +kernel
theorem dX12_init_137 : decode cX12_init 137 = .ok (.bipush 100, 2) := by decide +kernel
theorem dX12_init_139 : decode cX12_init 139 = .ok (.newarray .long, 2) := by decide +kernel
theorem dX12_init_141 : decode cX12_init 141 = .ok (.putfield 59, 3) := by decide +kernel
theorem dX12_init_144 : decode cX12_init 144 = .ok (.aload_n 0, 1) := by decide +kernel
theorem dX12_init_145 : decode cX12_init 145 = .ok (.iconst 0, 1) := by decide +kernel
theorem dX12_init_146 : decode cX12_init 146 = .ok (.putfield 62, 3) := by decide +kernel
theorem dX12_init_149 : decode cX12_init 149 = .ok (.return_, 1) := by decide +kernel
theorem dX12_thrown_0 : decode cX12_thrown 0 = .ok (.aload_n 0, 1) := by decide +kernel
theorem dX12_thrown_1 : decode cX12_thrown 1 = .ok (.getfield 62, 3) := by decide +kernel
theorem dX12_thrown_4 : decode cX12_thrown 4 = .ok (.ireturn, 1) := by decide +kernel
theorem dX12_in_0 : decode cX12_in 0 = .ok (.lload_n 0, 1) := by decide +kernel
theorem dX12_in_1 : decode cX12_in 1 = .ok (.lload_n 2, 1) := by decide +kernel
theorem dX12_in_2 : decode cX12_in 2 = .ok (.lcmp, 1) := by decide +kernel
theorem dX12_in_3 : decode cX12_in 3 = .ok (.ifCond .lt 14, 3) := by decide +kernel
theorem dX12_in_6 : decode cX12_in 6 = .ok (.lload_n 0, 1) := by decide +kernel
theorem dX12_in_7 : decode cX12_in 7 = .ok (.lload 4, 2) := by decide +kernel
theorem dX12_in_9 : decode cX12_in 9 = .ok (.lcmp, 1) := by decide +kernel
theorem dX12_in_10 : decode cX12_in 10 = .ok (.ifCond .gt 7, 3) := by decide +kernel
theorem dX12_in_13 : decode cX12_in 13 = .ok (.iconst 1, 1) := by decide +kernel
theorem dX12_in_14 : decode cX12_in 14 = .ok (.goto 4, 3) := by decide +kernel
theorem dX12_in_17 : decode cX12_in 17 = .ok (.iconst 0, 1) := by decide +kernel
theorem dX12_in_18 : decode cX12_in 18 = .ok (.ireturn, 1) := by decide +kernel
set_option maxRecDepth 20000 in
theorem ggX12_isCell_X12_in : GoodIn wsX12_isCell wsX12_in := goodIn_r _ [5] (by decide +kernel) (by decide +kernel)
set_option maxRecDepth 20000 in
theorem gX12_isCell_X12_in : GoodIn wsX12_isCell (va_wsS RX12 68 yX12_in wsX12_in) := goodIn_app (goodIn_of _ (by decide +kernel)) ggX12_isCell_X12_in
theorem dX12_isCell_0 : decode cX12_isCell 0 = .ok (.iload_n 0, 1) := by decide +kernel
theorem dX12_isCell_1 : decode cX12_isCell 1 = .ok (.i2l, 1) := by decide +kernel
theorem dX12_isCell_2 : decode cX12_isCell 2 = .ok (.lconst 0, 1) := by decide +kernel
theorem dX12_isCell_3 : decode cX12_isCell 3 = .ok (.ldc2_w 66, 3) := by decide +kernel
theorem dX12_isCell_6 : decode cX12_isCell 6 = .ok (.invokestatic 68, 3) := by decide +kernel
theorem dX12_isCell_9 : decode cX12_isCell 9 = .ok (.ireturn, 1) := by decide +kernel
theorem dX12_thickOf_0 : decode cX12_thickOf 0 = .ok (.iload_n 0, 1) := by decide +kernel
theorem dX12_thickOf_1 : decode cX12_thickOf 1 = .ok (.tableswitch 78 0 7 #[47, 78, 49, 62, 78, 66, 72, 62], 47) := by decide +kernel
theorem dX12_thickOf_48 : decode cX12_thickOf 48 = .ok (.iload_n 2, 1) := by decide +kernel
theorem dX12_thickOf_49 : decode cX12_thickOf 49 = .ok (.ireturn, 1) := by decide +kernel
theorem dX12_thickOf_50 : decode cX12_thickOf 50 = .ok (.iload_n 2, 1) := by decide +kernel
theorem dX12_thickOf_51 : decode cX12_thickOf 51 = .ok (.iconst 4, 1) := by decide +kernel
theorem dX12_thickOf_52 : decode cX12_thickOf 52 = .ok (.if_icmp .ge 7, 3) := by decide +kernel
theorem dX12_thickOf_55 : decode cX12_thickOf 55 = .ok (.iconst 1, 1) := by decide +kernel
theorem dX12_thickOf_56 : decode cX12_thickOf 56 = .ok (.goto 6, 3) := by decide +kernel
theorem dX12_thickOf_59 : decode cX12_thickOf 59 = .ok (.iload_n 2, 1) := by decide +kernel
theorem dX12_thickOf_60 : decode cX12_thickOf 60 = .ok (.iconst 2, 1) := by decide +kernel
theorem dX12_thickOf_61 : decode cX12_thickOf 61 = .ok (.idiv, 1) := by decide +kernel
theorem dX12_thickOf_62 : decode cX12_thickOf 62 = .ok (.ireturn, 1) := by decide +kernel
theorem dX12_thickOf_63 : decode cX12_thickOf 63 = .ok (.iconst 2, 1) := by decide +kernel
theorem dX12_thickOf_64 : decode cX12_thickOf 64 = .ok (.iload_n 2, 1) := by decide +kernel
theorem dX12_thickOf_65 : decode cX12_thickOf 65 = .ok (.imul, 1) := by decide +kernel
theorem dX12_thickOf_66 : decode cX12_thickOf 66 = .ok (.ireturn, 1) := by decide +kernel
theorem dX12_thickOf_67 : decode cX12_thickOf 67 = .ok (.iconst 2, 1) := by decide +kernel
theorem dX12_thickOf_68 : decode cX12_thickOf 68 = .ok (.iload_n 2, 1) := by decide +kernel
theorem dX12_thickOf_69 : decode cX12_thickOf 69 = .ok (.imul, 1) := by decide +kernel
theorem dX12_thickOf_70 : decode cX12_thickOf 70 = .ok (.iconst 1, 1) := by decide +kernel
theorem dX12_thickOf_71 : decode cX12_thickOf 71 = .ok (.isub, 1) := by decide +kernel
theorem dX12_thickOf_72 : decode cX12_thickOf 72 = .ok (.ireturn, 1) := by decide +kernel
theorem dX12_thickOf_73 : decode cX12_thickOf 73 = .ok (.iload_n 2, 1) := by decide +kernel
theorem dX12_thickOf_74 : decode cX12_thickOf 74 = .ok (.iconst 1, 1) := by decide +kernel
theorem dX12_thickOf_75 : decode cX12_thickOf 75 = .ok (.iadd, 1) := by decide +kernel
theorem dX12_thickOf_76 : decode cX12_thickOf 76 = .ok (.iload_n 1, 1) := by decide +kernel
theorem dX12_thickOf_77 : decode cX12_thickOf 77 = .ok (.iadd, 1) := by decide +kernel
theorem dX12_thickOf_78 : decode cX12_thickOf 78 = .ok (.ireturn, 1) := by decide +kernel
theorem dX12_thickOf_79 : decode cX12_thickOf 79 = .ok (.iload_n 2, 1) := by decide +kernel
theorem dX12_thickOf_80 : decode cX12_thickOf 80 = .ok (.iconst 1, 1) := by decide +kernel
theorem dX12_thickOf_81 : decode cX12_thickOf 81 = .ok (.iadd, 1) := by decide +kernel
theorem dX12_thickOf_82 : decode cX12_thickOf 82 = .ok (.ireturn, 1) := by decide +kernel
theorem dX12_meltsOf_0 : decode cX12_meltsOf 0 = .ok (.iload_n 0, 1) := by decide +kernel
theorem dX12_meltsOf_1 : decode cX12_meltsOf 1 = .ok (.tableswitch 56 1 7 #[43, 45, 47, 56, 49, 43, 52], 43) := by decide +kernel
theorem dX12_meltsOf_44 : decode cX12_meltsOf 44 = .ok (.iconst 1, 1) := by decide +kernel
theorem dX12_meltsOf_45 : decode cX12_meltsOf 45 = .ok (.ireturn, 1) := by decide +kernel
theorem dX12_meltsOf_46 : decode cX12_meltsOf 46 = .ok (.iconst 4, 1) := by decide +kernel
theorem dX12_meltsOf_47 : decode cX12_meltsOf 47 = .ok (.ireturn, 1) := by decide +kernel
theorem dX12_meltsOf_48 : decode cX12_meltsOf 48 = .ok (.iconst 3, 1) := by decide +kernel
theorem dX12_meltsOf_49 : decode cX12_meltsOf 49 = .ok (.ireturn, 1) := by decide +kernel
theorem dX12_meltsOf_50 : decode cX12_meltsOf 50 = .ok (.bipush 6, 2) := by decide +kernel
theorem dX12_meltsOf_52 : decode cX12_meltsOf 52 = .ok (.ireturn, 1) := by decide +kernel
theorem dX12_meltsOf_53 : decode cX12_meltsOf 53 = .ok (.iconst 3, 1) := by decide +kernel
theorem dX12_meltsOf_54 : decode cX12_meltsOf 54 = .ok (.iload_n 1, 1) := by decide +kernel
theorem dX12_meltsOf_55 : decode cX12_meltsOf 55 = .ok (.iadd, 1) := by decide +kernel
theorem dX12_meltsOf_56 : decode cX12_meltsOf 56 = .ok (.ireturn, 1) := by decide +kernel
theorem dX12_meltsOf_57 : decode cX12_meltsOf 57 = .ok (.iconst 2, 1) := by decide +kernel
theorem dX12_meltsOf_58 : decode cX12_meltsOf 58 = .ok (.ireturn, 1) := by decide +kernel
theorem dX12_lightOf_0 : decode cX12_lightOf 0 = .ok (.iload_n 0, 1) := by decide +kernel
theorem dX12_lightOf_1 : decode cX12_lightOf 1 = .ok (.tableswitch 58 1 7 #[43, 58, 46, 48, 46, 53, 56], 43) := by decide +kernel
theorem dX12_lightOf_44 : decode cX12_lightOf 44 = .ok (.bipush 14, 2) := by decide +kernel
theorem dX12_lightOf_46 : decode cX12_lightOf 46 = .ok (.ireturn, 1) := by decide +kernel
theorem dX12_lightOf_47 : decode cX12_lightOf 47 = .ok (.iconst 3, 1) := by decide +kernel
theorem dX12_lightOf_48 : decode cX12_lightOf 48 = .ok (.ireturn, 1) := by decide +kernel
theorem dX12_lightOf_49 : decode cX12_lightOf 49 = .ok (.bipush 14, 2) := by decide +kernel
theorem dX12_lightOf_51 : decode cX12_lightOf 51 = .ok (.iload_n 1, 1) := by decide +kernel
theorem dX12_lightOf_52 : decode cX12_lightOf 52 = .ok (.isub, 1) := by decide +kernel
theorem dX12_lightOf_53 : decode cX12_lightOf 53 = .ok (.ireturn, 1) := by decide +kernel
theorem dX12_lightOf_54 : decode cX12_lightOf 54 = .ok (.bipush 28, 2) := by decide +kernel
theorem dX12_lightOf_56 : decode cX12_lightOf 56 = .ok (.ireturn, 1) := by decide +kernel
theorem dX12_lightOf_57 : decode cX12_lightOf 57 = .ok (.iconst 0, 1) := by decide +kernel
theorem dX12_lightOf_58 : decode cX12_lightOf 58 = .ok (.ireturn, 1) := by decide +kernel
theorem dX12_lightOf_59 : decode cX12_lightOf 59 = .ok (.bipush 9, 2) := by decide +kernel
theorem dX12_lightOf_61 : decode cX12_lightOf 61 = .ok (.ireturn, 1) := by decide +kernel
theorem dX12_tollOf_0 : decode cX12_tollOf 0 = .ok (.iload_n 0, 1) := by decide +kernel
theorem dX12_tollOf_1 : decode cX12_tollOf 1 = .ok (.tableswitch 71 0 6 #[43, 45, 49, 55, 57, 63, 66], 43) := by decide +kernel
theorem dX12_tollOf_44 : decode cX12_tollOf 44 = .ok (.iconst 3, 1) := by decide +kernel
theorem dX12_tollOf_45 : decode cX12_tollOf 45 = .ok (.ireturn, 1) := by decide +kernel
theorem dX12_tollOf_46 : decode cX12_tollOf 46 = .ok (.iconst 3, 1) := by decide +kernel
theorem dX12_tollOf_47 : decode cX12_tollOf 47 = .ok (.iload_n 1, 1) := by decide +kernel
theorem dX12_tollOf_48 : decode cX12_tollOf 48 = .ok (.iadd, 1) := by decide +kernel
theorem dX12_tollOf_49 : decode cX12_tollOf 49 = .ok (.ireturn, 1) := by decide +kernel
theorem dX12_tollOf_50 : decode cX12_tollOf 50 = .ok (.iconst 3, 1) := by decide +kernel
theorem dX12_tollOf_51 : decode cX12_tollOf 51 = .ok (.iload_n 1, 1) := by decide +kernel
theorem dX12_tollOf_52 : decode cX12_tollOf 52 = .ok (.iconst 1, 1) := by decide +kernel
theorem dX12_tollOf_53 : decode cX12_tollOf 53 = .ok (.iadd, 1) := by decide +kernel
theorem dX12_tollOf_54 : decode cX12_tollOf 54 = .ok (.imul, 1) := by decide +kernel
theorem dX12_tollOf_55 : decode cX12_tollOf 55 = .ok (.ireturn, 1) := by decide +kernel
theorem dX12_tollOf_56 : decode cX12_tollOf 56 = .ok (.iconst 2, 1) := by decide +kernel
theorem dX12_tollOf_57 : decode cX12_tollOf 57 = .ok (.ireturn, 1) := by decide +kernel
theorem dX12_tollOf_58 : decode cX12_tollOf 58 = .ok (.iconst 2, 1) := by decide +kernel
theorem dX12_tollOf_59 : decode cX12_tollOf 59 = .ok (.iconst 3, 1) := by decide +kernel
theorem dX12_tollOf_60 : decode cX12_tollOf 60 = .ok (.iload_n 1, 1) := by decide +kernel
theorem dX12_tollOf_61 : decode cX12_tollOf 61 = .ok (.iadd, 1) := by decide +kernel
theorem dX12_tollOf_62 : decode cX12_tollOf 62 = .ok (.imul, 1) := by decide +kernel
theorem dX12_tollOf_63 : decode cX12_tollOf 63 = .ok (.ireturn, 1) := by decide +kernel
theorem dX12_tollOf_64 : decode cX12_tollOf 64 = .ok (.bipush 6, 2) := by decide +kernel
theorem dX12_tollOf_66 : decode cX12_tollOf 66 = .ok (.ireturn, 1) := by decide +kernel
theorem dX12_tollOf_67 : decode cX12_tollOf 67 = .ok (.bipush 10, 2) := by decide +kernel
theorem dX12_tollOf_69 : decode cX12_tollOf 69 = .ok (.iload_n 1, 1) := by decide +kernel
theorem dX12_tollOf_70 : decode cX12_tollOf 70 = .ok (.iadd, 1) := by decide +kernel
theorem dX12_tollOf_71 : decode cX12_tollOf 71 = .ok (.ireturn, 1) := by decide +kernel
theorem dX12_tollOf_72 : decode cX12_tollOf 72 = .ok (.iconst 2, 1) := by decide +kernel
theorem dX12_tollOf_73 : decode cX12_tollOf 73 = .ok (.iload_n 1, 1) := by decide +kernel
theorem dX12_tollOf_74 : decode cX12_tollOf 74 = .ok (.isub, 1) := by decide +kernel
theorem dX12_tollOf_75 : decode cX12_tollOf 75 = .ok (.ireturn, 1) := by decide +kernel
set_option maxRecDepth 20000 in
theorem ggX12_freezes_X12_thickOf : GoodIn wsX12_freezes wsX12_thickOf := goodIn_r _ [10] (by decide +kernel) (by decide +kernel)
set_option maxRecDepth 20000 in
theorem gX12_freezes_X12_thickOf : GoodIn wsX12_freezes (va_wsS RX12 75 yX12_thickOf wsX12_thickOf) := goodIn_app (goodIn_of _ (by decide +kernel)) ggX12_freezes_X12_thickOf
theorem dX12_freezes_0 : decode cX12_freezes 0 = .ok (.aload_n 0, 1) := by decide +kernel
theorem dX12_freezes_1 : decode cX12_freezes 1 = .ok (.getfield 7, 3) := by decide +kernel
theorem dX12_freezes_4 : decode cX12_freezes 4 = .ok (.iload_n 1, 1) := by decide +kernel
theorem dX12_freezes_5 : decode cX12_freezes 5 = .ok (.iaload, 1) := by decide +kernel
theorem dX12_freezes_6 : decode cX12_freezes 6 = .ok (.bipush 8, 2) := by decide +kernel
theorem dX12_freezes_8 : decode cX12_freezes 8 = .ok (.if_icmp .ne 5, 3) := by decide +kernel
theorem dX12_freezes_11 : decode cX12_freezes 11 = .ok (.iconst 0, 1) := by decide +kernel
theorem dX12_freezes_12 : decode cX12_freezes 12 = .ok (.ireturn, 1) := by decide +kernel
theorem dX12_freezes_13 : decode cX12_freezes 13 = .ok (.bipush 8, 2) := by decide +kernel
theorem dX12_freezes_15 : decode cX12_freezes 15 = .ok (.iload_n 1, 1) := by decide +kernel
theorem dX12_freezes_16 : decode cX12_freezes 16 = .ok (.imul, 1) := by decide +kernel
theorem dX12_freezes_17 : decode cX12_freezes 17 = .ok (.aload_n 0, 1) := by decide +kernel
theorem dX12_freezes_18 : decode cX12_freezes 18 = .ok (.getfield 7, 3) := by decide +kernel
theorem dX12_freezes_21 : decode cX12_freezes 21 = .ok (.iload_n 1, 1) := by decide +kernel
theorem dX12_freezes_22 : decode cX12_freezes 22 = .ok (.iaload, 1) := by decide +kernel
theorem dX12_freezes_23 : decode cX12_freezes 23 = .ok (.iadd, 1) := by decide +kernel
theorem dX12_freezes_24 : decode cX12_freezes 24 = .ok (.istore 5, 2) := by decide +kernel
theorem dX12_freezes_26 : decode cX12_freezes 26 = .ok (.aload_n 0, 1) := by decide +kernel
theorem dX12_freezes_27 : decode cX12_freezes 27 = .ok (.getfield 13, 3) := by decide +kernel
theorem dX12_freezes_30 : decode cX12_freezes 30 = .ok (.iload 5, 2) := by decide +kernel
theorem dX12_freezes_32 : decode cX12_freezes 32 = .ok (.iload_n 2, 1) := by decide +kernel
theorem dX12_freezes_33 : decode cX12_freezes 33 = .ok (.iastore, 1) := by decide +kernel
theorem dX12_freezes_34 : decode cX12_freezes 34 = .ok (.aload_n 0, 1) := by decide +kernel
theorem dX12_freezes_35 : decode cX12_freezes 35 = .ok (.getfield 16, 3) := by decide +kernel
theorem dX12_freezes_38 : decode cX12_freezes 38 = .ok (.iload 5, 2) := by decide +kernel
theorem dX12_freezes_40 : decode cX12_freezes 40 = .ok (.iload_n 3, 1) := by decide +kernel
theorem dX12_freezes_41 : decode cX12_freezes 41 = .ok (.iastore, 1) := by decide +kernel
theorem dX12_freezes_42 : decode cX12_freezes 42 = .ok (.aload_n 0, 1) := by decide +kernel
theorem dX12_freezes_43 : decode cX12_freezes 43 = .ok (.getfield 19, 3) := by decide +kernel
theorem dX12_freezes_46 : decode cX12_freezes 46 = .ok (.iload 5, 2) := by decide +kernel
theorem dX12_freezes_48 : decode cX12_freezes 48 = .ok (.aload_n 0, 1) := by decide +kernel
theorem dX12_freezes_49 : decode cX12_freezes 49 = .ok (.getfield 72, 3) := by decide +kernel
theorem dX12_freezes_52 : decode cX12_freezes 52 = .ok (.iastore, 1) := by decide +kernel
theorem dX12_freezes_53 : decode cX12_freezes 53 = .ok (.aload_n 0, 1) := by decide +kernel
theorem dX12_freezes_54 : decode cX12_freezes 54 = .ok (.getfield 22, 3) := by decide +kernel
theorem dX12_freezes_57 : decode cX12_freezes 57 = .ok (.iload 5, 2) := by decide +kernel
theorem dX12_freezes_59 : decode cX12_freezes 59 = .ok (.iload_n 2, 1) := by decide +kernel
theorem dX12_freezes_60 : decode cX12_freezes 60 = .ok (.iload_n 3, 1) := by decide +kernel
theorem dX12_freezes_61 : decode cX12_freezes 61 = .ok (.iload 4, 2) := by decide +kernel
theorem dX12_freezes_63 : decode cX12_freezes 63 = .ok (.invokestatic 75, 3) := by decide +kernel
theorem dX12_freezes_66 : decode cX12_freezes 66 = .ok (.iastore, 1) := by decide +kernel
theorem dX12_freezes_67 : decode cX12_freezes 67 = .ok (.aload_n 0, 1) := by decide +kernel
theorem dX12_freezes_68 : decode cX12_freezes 68 = .ok (.getfield 7, 3) := by decide +kernel
theorem dX12_freezes_71 : decode cX12_freezes 71 = .ok (.iload_n 1, 1) := by decide +kernel
theorem dX12_freezes_72 : decode cX12_freezes 72 = .ok (.dup2, 1) := by decide +kernel
theorem dX12_freezes_73 : decode cX12_freezes 73 = .ok (.iaload, 1) := by decide +kernel
theorem dX12_freezes_74 : decode cX12_freezes 74 = .ok (.iconst 1, 1) := by decide +kernel
theorem dX12_freezes_75 : decode cX12_freezes 75 = .ok (.iadd, 1) := by decide +kernel
theorem dX12_freezes_76 : decode cX12_freezes 76 = .ok (.iastore, 1) := by decide +kernel
theorem dX12_freezes_77 : decode cX12_freezes 77 = .ok (.iconst 1, 1) := by decide +kernel
theorem dX12_freezes_78 : decode cX12_freezes 78 = .ok (.ireturn, 1) := by decide +kernel
set_option maxRecDepth 20000 in
theorem ggX12_warmDay_X12_meltsOf : GoodIn wsX12_warmDay wsX12_meltsOf := goodIn_r _ [8] (by decide +kernel) (by decide +kernel)
set_option maxRecDepth 20000 in
theorem gX12_warmDay_X12_meltsOf : GoodIn wsX12_warmDay (va_wsS RX12 79 yX12_meltsOf wsX12_meltsOf) := goodIn_app (goodIn_of _ (by decide +kernel)) ggX12_warmDay_X12_meltsOf
theorem dX12_warmDay_0 : decode cX12_warmDay 0 = .ok (.iconst 0, 1) := by decide +kernel
theorem dX12_warmDay_1 : decode cX12_warmDay 1 = .ok (.istore_n 1, 1) := by decide +kernel
theorem dX12_warmDay_2 : decode cX12_warmDay 2 = .ok (.iconst 0, 1) := by decide +kernel
theorem dX12_warmDay_3 : decode cX12_warmDay 3 = .ok (.istore_n 2, 1) := by decide +kernel
theorem dX12_warmDay_4 : decode cX12_warmDay 4 = .ok (.iload_n 2, 1) := by decide +kernel
theorem dX12_warmDay_5 : decode cX12_warmDay 5 = .ok (.bipush 6, 2) := by decide +kernel
theorem dX12_warmDay_7 : decode cX12_warmDay 7 = .ok (.if_icmp .ge 104, 3) := by decide +kernel
theorem dX12_warmDay_10 : decode cX12_warmDay 10 = .ok (.bipush 8, 2) := by decide +kernel
theorem dX12_warmDay_12 : decode cX12_warmDay 12 = .ok (.iload_n 2, 1) := by decide +kernel
theorem dX12_warmDay_13 : decode cX12_warmDay 13 = .ok (.imul, 1) := by decide +kernel
theorem dX12_warmDay_14 : decode cX12_warmDay 14 = .ok (.aload_n 0, 1) := by decide +kernel
theorem dX12_warmDay_15 : decode cX12_warmDay 15 = .ok (.getfield 7, 3) := by decide +kernel
theorem dX12_warmDay_18 : decode cX12_warmDay 18 = .ok (.iload_n 2, 1) := by decide +kernel
theorem dX12_warmDay_19 : decode cX12_warmDay 19 = .ok (.iaload, 1) := by decide +kernel
theorem dX12_warmDay_20 : decode cX12_warmDay 20 = .ok (.iadd, 1) := by decide +kernel
theorem dX12_warmDay_21 : decode cX12_warmDay 21 = .ok (.iconst 1, 1) := by decide +kernel
theorem dX12_warmDay_22 : decode cX12_warmDay 22 = .ok (.isub, 1) := by decide +kernel
theorem dX12_warmDay_23 : decode cX12_warmDay 23 = .ok (.istore_n 3, 1) := by decide +kernel
theorem dX12_warmDay_24 : decode cX12_warmDay 24 = .ok (.aload_n 0, 1) := by decide +kernel
theorem dX12_warmDay_25 : decode cX12_warmDay 25 = .ok (.getfield 7, 3) := by decide +kernel
theorem dX12_warmDay_28 : decode cX12_warmDay 28 = .ok (.iload_n 2, 1) := by decide +kernel
theorem dX12_warmDay_29 : decode cX12_warmDay 29 = .ok (.iaload, 1) := by decide +kernel
theorem dX12_warmDay_30 : decode cX12_warmDay 30 = .ok (.ifCond .le 75, 3) := by decide +kernel
theorem dX12_warmDay_33 : decode cX12_warmDay 33 = .ok (.aload_n 0, 1) := by decide +kernel
theorem dX12_warmDay_34 : decode cX12_warmDay 34 = .ok (.getfield 22, 3) := by decide +kernel
theorem dX12_warmDay_37 : decode cX12_warmDay 37 = .ok (.iload_n 3, 1) := by decide +kernel
theorem dX12_warmDay_38 : decode cX12_warmDay 38 = .ok (.dup2, 1) := by decide +kernel
theorem dX12_warmDay_39 : decode cX12_warmDay 39 = .ok (.iaload, 1) := by decide +kernel
theorem dX12_warmDay_40 : decode cX12_warmDay 40 = .ok (.aload_n 0, 1) := by decide +kernel
theorem dX12_warmDay_41 : decode cX12_warmDay 41 = .ok (.getfield 13, 3) := by decide +kernel
theorem dX12_warmDay_44 : decode cX12_warmDay 44 = .ok (.iload_n 3, 1) := by decide +kernel
theorem dX12_warmDay_45 : decode cX12_warmDay 45 = .ok (.iaload, 1) := by decide +kernel
theorem dX12_warmDay_46 : decode cX12_warmDay 46 = .ok (.aload_n 0, 1) := by decide +kernel
theorem dX12_warmDay_47 : decode cX12_warmDay 47 = .ok (.getfield 16, 3) := by decide +kernel
theorem dX12_warmDay_50 : decode cX12_warmDay 50 = .ok (.iload_n 3, 1) := by decide +kernel
theorem dX12_warmDay_51 : decode cX12_warmDay 51 = .ok (.iaload, 1) := by decide +kernel
theorem dX12_warmDay_52 : decode cX12_warmDay 52 = .ok (.invokestatic 79, 3) := by decide +kernel
theorem dX12_warmDay_55 : decode cX12_warmDay 55 = .ok (.isub, 1) := by decide +kernel
theorem dX12_warmDay_56 : decode cX12_warmDay 56 = .ok (.iastore, 1) := by decide +kernel
theorem dX12_warmDay_57 : decode cX12_warmDay 57 = .ok (.aload_n 0, 1) := by decide +kernel
theorem dX12_warmDay_58 : decode cX12_warmDay 58 = .ok (.getfield 22, 3) := by decide +kernel
theorem dX12_warmDay_61 : decode cX12_warmDay 61 = .ok (.iload_n 3, 1) := by decide +kernel
theorem dX12_warmDay_62 : decode cX12_warmDay 62 = .ok (.iaload, 1) := by decide +kernel
theorem dX12_warmDay_63 : decode cX12_warmDay 63 = .ok (.ifCond .gt 7, 3) := by decide +kernel
theorem dX12_warmDay_66 : decode cX12_warmDay 66 = .ok (.iconst 1, 1) := by decide +kernel
theorem dX12_warmDay_67 : decode cX12_warmDay 67 = .ok (.goto 4, 3) := by decide +kernel
theorem dX12_warmDay_70 : decode cX12_warmDay 70 = .ok (.iconst 0, 1) := by decide +kernel
theorem dX12_warmDay_71 : decode cX12_warmDay 71 = .ok (.istore 4, 2) := by decide +kernel
theorem dX12_warmDay_73 : decode cX12_warmDay 73 = .ok (.aload_n 0, 1) := by decide +kernel
theorem dX12_warmDay_74 : decode cX12_warmDay 74 = .ok (.getfield 7, 3) := by decide +kernel
theorem dX12_warmDay_77 : decode cX12_warmDay 77 = .ok (.iload_n 2, 1) := by decide +kernel
theorem dX12_warmDay_78 : decode cX12_warmDay 78 = .ok (.dup2, 1) := by decide +kernel
theorem dX12_warmDay_79 : decode cX12_warmDay 79 = .ok (.iaload, 1) := by decide +kernel
theorem dX12_warmDay_80 : decode cX12_warmDay 80 = .ok (.iload 4, 2) := by decide +kernel
theorem dX12_warmDay_82 : decode cX12_warmDay 82 = .ok (.ifCond .eq 7, 3) := by decide +kernel
theorem dX12_warmDay_85 : decode cX12_warmDay 85 = .ok (.iconst 1, 1) := by decide +kernel
theorem dX12_warmDay_86 : decode cX12_warmDay 86 = .ok (.goto 4, 3) := by decide +kernel
theorem dX12_warmDay_89 : decode cX12_warmDay 89 = .ok (.iconst 0, 1) := by decide +kernel
theorem dX12_warmDay_90 : decode cX12_warmDay 90 = .ok (.isub, 1) := by decide +kernel
theorem dX12_warmDay_91 : decode cX12_warmDay 91 = .ok (.iastore, 1) := by decide +kernel
theorem dX12_warmDay_92 : decode cX12_warmDay 92 = .ok (.iload_n 1, 1) := by decide +kernel
theorem dX12_warmDay_93 : decode cX12_warmDay 93 = .ok (.iload 4, 2) := by decide +kernel
theorem dX12_warmDay_95 : decode cX12_warmDay 95 = .ok (.ifCond .eq 7, 3) := by decide +kernel
theorem dX12_warmDay_98 : decode cX12_warmDay 98 = .ok (.iconst 1, 1) := by decide +kernel
theorem dX12_warmDay_99 : decode cX12_warmDay 99 = .ok (.goto 4, 3) := by decide +kernel
theorem dX12_warmDay_102 : decode cX12_warmDay 102 = .ok (.iconst 0, 1) := by decide +kernel
theorem dX12_warmDay_103 : decode cX12_warmDay 103 = .ok (.iadd, 1) := by decide +kernel
theorem dX12_warmDay_104 : decode cX12_warmDay 104 = .ok (.istore_n 1, 1) := by decide +kernel
theorem dX12_warmDay_105 : decode cX12_warmDay 105 = .ok (.iinc 2 1, 3) := by decide +kernel
theorem dX12_warmDay_108 : decode cX12_warmDay 108 = .ok (.goto (-104), 3) := by decide +kernel
theorem dX12_warmDay_111 : decode cX12_warmDay 111 = .ok (.iload_n 1, 1) := by decide +kernel
theorem dX12_warmDay_112 : decode cX12_warmDay 112 = .ok (.ireturn, 1) := by decide +kernel
theorem dX12_cuts_0 : decode cX12_cuts 0 = .ok (.iload_n 2, 1) := by decide +kernel
theorem dX12_cuts_1 : decode cX12_cuts 1 = .ok (.istore_n 3, 1) := by decide +kernel
theorem dX12_cuts_2 : decode cX12_cuts 2 = .ok (.iconst 0, 1) := by decide +kernel
theorem dX12_cuts_3 : decode cX12_cuts 3 = .ok (.istore 4, 2) := by decide +kernel
theorem dX12_cuts_5 : decode cX12_cuts 5 = .ok (.iload_n 3, 1) := by decide +kernel
theorem dX12_cuts_6 : decode cX12_cuts 6 = .ok (.ifCond .le 122, 3) := by decide +kernel
theorem dX12_cuts_9 : decode cX12_cuts 9 = .ok (.aload_n 0, 1) := by decide +kernel
theorem dX12_cuts_10 : decode cX12_cuts 10 = .ok (.getfield 7, 3) := by decide +kernel
theorem dX12_cuts_13 : decode cX12_cuts 13 = .ok (.iload_n 1, 1) := by decide +kernel
theorem dX12_cuts_14 : decode cX12_cuts 14 = .ok (.iaload, 1) := by decide +kernel
theorem dX12_cuts_15 : decode cX12_cuts 15 = .ok (.ifCond .le 113, 3) := by decide +kernel
theorem dX12_cuts_18 : decode cX12_cuts 18 = .ok (.bipush 8, 2) := by decide +kernel
theorem dX12_cuts_20 : decode cX12_cuts 20 = .ok (.iload_n 1, 1) := by decide +kernel
theorem dX12_cuts_21 : decode cX12_cuts 21 = .ok (.imul, 1) := by decide +kernel
theorem dX12_cuts_22 : decode cX12_cuts 22 = .ok (.aload_n 0, 1) := by decide +kernel
theorem dX12_cuts_23 : decode cX12_cuts 23 = .ok (.getfield 7, 3) := by decide +kernel
theorem dX12_cuts_26 : decode cX12_cuts 26 = .ok (.iload_n 1, 1) := by decide +kernel
theorem dX12_cuts_27 : decode cX12_cuts 27 = .ok (.iaload, 1) := by decide +kernel
theorem dX12_cuts_28 : decode cX12_cuts 28 = .ok (.iadd, 1) := by decide +kernel
theorem dX12_cuts_29 : decode cX12_cuts 29 = .ok (.iconst 1, 1) := by decide +kernel
theorem dX12_cuts_30 : decode cX12_cuts 30 = .ok (.isub, 1) := by decide +kernel
theorem dX12_cuts_31 : decode cX12_cuts 31 = .ok (.istore 5, 2) := by decide +kernel
theorem dX12_cuts_33 : decode cX12_cuts 33 = .ok (.aload_n 0, 1) := by decide +kernel
theorem dX12_cuts_34 : decode cX12_cuts 34 = .ok (.getfield 22, 3) := by decide +kernel
theorem dX12_cuts_37 : decode cX12_cuts 37 = .ok (.iload 5, 2) := by decide +kernel
theorem dX12_cuts_39 : decode cX12_cuts 39 = .ok (.iaload, 1) := by decide +kernel
theorem dX12_cuts_40 : decode cX12_cuts 40 = .ok (.iload_n 3, 1) := by decide +kernel
theorem dX12_cuts_41 : decode cX12_cuts 41 = .ok (.if_icmp .ge 13, 3) := by decide +kernel
theorem dX12_cuts_44 : decode cX12_cuts 44 = .ok (.aload_n 0, 1) := by decide +kernel
theorem dX12_cuts_45 : decode cX12_cuts 45 = .ok (.getfield 22, 3) := by decide +kernel
theorem dX12_cuts_48 : decode cX12_cuts 48 = .ok (.iload 5, 2) := by decide +kernel
theorem dX12_cuts_50 : decode cX12_cuts 50 = .ok (.iaload, 1) := by decide +kernel
theorem dX12_cuts_51 : decode cX12_cuts 51 = .ok (.goto 4, 3) := by decide +kernel
theorem dX12_cuts_54 : decode cX12_cuts 54 = .ok (.iload_n 3, 1) := by decide +kernel
theorem dX12_cuts_55 : decode cX12_cuts 55 = .ok (.istore 6, 2) := by decide +kernel
theorem dX12_cuts_57 : decode cX12_cuts 57 = .ok (.aload_n 0, 1) := by decide +kernel
theorem dX12_cuts_58 : decode cX12_cuts 58 = .ok (.getfield 22, 3) := by decide +kernel
theorem dX12_cuts_61 : decode cX12_cuts 61 = .ok (.iload 5, 2) := by decide +kernel
theorem dX12_cuts_63 : decode cX12_cuts 63 = .ok (.dup2, 1) := by decide +kernel
theorem dX12_cuts_64 : decode cX12_cuts 64 = .ok (.iaload, 1) := by decide +kernel
theorem dX12_cuts_65 : decode cX12_cuts 65 = .ok (.iload 6, 2) := by decide +kernel
theorem dX12_cuts_67 : decode cX12_cuts 67 = .ok (.isub, 1) := by decide +kernel
theorem dX12_cuts_68 : decode cX12_cuts 68 = .ok (.iastore, 1) := by decide +kernel
theorem dX12_cuts_69 : decode cX12_cuts 69 = .ok (.iload_n 3, 1) := by decide +kernel
theorem dX12_cuts_70 : decode cX12_cuts 70 = .ok (.iload 6, 2) := by decide +kernel
theorem dX12_cuts_72 : decode cX12_cuts 72 = .ok (.isub, 1) := by decide +kernel
theorem dX12_cuts_73 : decode cX12_cuts 73 = .ok (.istore_n 3, 1) := by decide +kernel
theorem dX12_cuts_74 : decode cX12_cuts 74 = .ok (.aload_n 0, 1) := by decide +kernel
theorem dX12_cuts_75 : decode cX12_cuts 75 = .ok (.getfield 22, 3) := by decide +kernel
theorem dX12_cuts_78 : decode cX12_cuts 78 = .ok (.iload 5, 2) := by decide +kernel
theorem dX12_cuts_80 : decode cX12_cuts 80 = .ok (.iaload, 1) := by decide +kernel
theorem dX12_cuts_81 : decode cX12_cuts 81 = .ok (.ifCond .ne 7, 3) := by decide +kernel
theorem dX12_cuts_84 : decode cX12_cuts 84 = .ok (.iconst 1, 1) := by decide +kernel
theorem dX12_cuts_85 : decode cX12_cuts 85 = .ok (.goto 4, 3) := by decide +kernel
theorem dX12_cuts_88 : decode cX12_cuts 88 = .ok (.iconst 0, 1) := by decide +kernel
theorem dX12_cuts_89 : decode cX12_cuts 89 = .ok (.istore 7, 2) := by decide +kernel
theorem dX12_cuts_91 : decode cX12_cuts 91 = .ok (.aload_n 0, 1) := by decide +kernel
theorem dX12_cuts_92 : decode cX12_cuts 92 = .ok (.getfield 7, 3) := by decide +kernel
theorem dX12_cuts_95 : decode cX12_cuts 95 = .ok (.iload_n 1, 1) := by decide +kernel
theorem dX12_cuts_96 : decode cX12_cuts 96 = .ok (.dup2, 1) := by decide +kernel
theorem dX12_cuts_97 : decode cX12_cuts 97 = .ok (.iaload, 1) := by decide +kernel
theorem dX12_cuts_98 : decode cX12_cuts 98 = .ok (.iload 7, 2) := by decide +kernel
theorem dX12_cuts_100 : decode cX12_cuts 100 = .ok (.ifCond .eq 7, 3) := by decide +kernel
theorem dX12_cuts_103 : decode cX12_cuts 103 = .ok (.iconst 1, 1) := by decide +kernel
theorem dX12_cuts_104 : decode cX12_cuts 104 = .ok (.goto 4, 3) := by decide +kernel
theorem dX12_cuts_107 : decode cX12_cuts 107 = .ok (.iconst 0, 1) := by decide +kernel
theorem dX12_cuts_108 : decode cX12_cuts 108 = .ok (.isub, 1) := by decide +kernel
theorem dX12_cuts_109 : decode cX12_cuts 109 = .ok (.iastore, 1) := by decide +kernel
theorem dX12_cuts_110 : decode cX12_cuts 110 = .ok (.iload 4, 2) := by decide +kernel
theorem dX12_cuts_112 : decode cX12_cuts 112 = .ok (.iload 7, 2) := by decide +kernel
theorem dX12_cuts_114 : decode cX12_cuts 114 = .ok (.ifCond .eq 7, 3) := by decide +kernel
theorem dX12_cuts_117 : decode cX12_cuts 117 = .ok (.iconst 1, 1) := by decide +kernel
theorem dX12_cuts_118 : decode cX12_cuts 118 = .ok (.goto 4, 3) := by decide +kernel
theorem dX12_cuts_121 : decode cX12_cuts 121 = .ok (.iconst 0, 1) := by decide +kernel
theorem dX12_cuts_122 : decode cX12_cuts 122 = .ok (.iadd, 1) := by decide +kernel
theorem dX12_cuts_123 : decode cX12_cuts 123 = .ok (.istore 4, 2) := by decide +kernel
theorem dX12_cuts_125 : decode cX12_cuts 125 = .ok (.goto (-120), 3) := by decide +kernel
theorem dX12_cuts_128 : decode cX12_cuts 128 = .ok (.iload 4, 2) := by decide +kernel
theorem dX12_cuts_130 : decode cX12_cuts 130 = .ok (.ireturn, 1) := by decide +kernel
theorem dX12_swapInts_0 : decode cX12_swapInts 0 = .ok (.aload_n 1, 1) := by decide +kernel
theorem dX12_swapInts_1 : decode cX12_swapInts 1 = .ok (.iload_n 2, 1) := by decide +kernel
theorem dX12_swapInts_2 : decode cX12_swapInts 2 = .ok (.iaload, 1) := by decide +kernel
theorem dX12_swapInts_3 : decode cX12_swapInts 3 = .ok (.istore 4, 2) := by decide +kernel
theorem dX12_swapInts_5 : decode cX12_swapInts 5 = .ok (.aload_n 1, 1) := by decide +kernel
theorem dX12_swapInts_6 : decode cX12_swapInts 6 = .ok (.iload_n 2, 1) := by decide +kernel
theorem dX12_swapInts_7 : decode cX12_swapInts 7 = .ok (.aload_n 1, 1) := by decide +kernel
theorem dX12_swapInts_8 : decode cX12_swapInts 8 = .ok (.iload_n 3, 1) := by decide +kernel
theorem dX12_swapInts_9 : decode cX12_swapInts 9 = .ok (.iaload, 1) := by decide +kernel
theorem dX12_swapInts_10 : decode cX12_swapInts 10 = .ok (.iastore, 1) := by decide +kernel
theorem dX12_swapInts_11 : decode cX12_swapInts 11 = .ok (.aload_n 1, 1) := by decide +kernel
theorem dX12_swapInts_12 : decode cX12_swapInts 12 = .ok (.iload_n 3, 1) := by decide +kernel
theorem dX12_swapInts_13 : decode cX12_swapInts 13 = .ok (.iload 4, 2) := by decide +kernel
theorem dX12_swapInts_15 : decode cX12_swapInts 15 = .ok (.iastore, 1) := by decide +kernel
theorem dX12_swapInts_16 : decode cX12_swapInts 16 = .ok (.return_, 1) := by decide +kernel
set_option maxRecDepth 20000 in
theorem ggX12_drifts_X12_swapInts : GoodIn wsX12_drifts wsX12_swapInts := goodIn_r _ [10] (by decide +kernel) (by decide +kernel)
set_option maxRecDepth 20000 in
theorem gX12_drifts_X12_swapInts : GoodIn wsX12_drifts (wsV RX12 83 RX12 yX12_swapInts wsX12_swapInts) := goodIn_app (goodIn_of _ (by decide +kernel)) ggX12_drifts_X12_swapInts
theorem dX12_drifts_0 : decode cX12_drifts 0 = .ok (.iconst 0, 1) := by decide +kernel
theorem dX12_drifts_1 : decode cX12_drifts 1 = .ok (.istore_n 1, 1) := by decide +kernel
theorem dX12_drifts_2 : decode cX12_drifts 2 = .ok (.iload_n 1, 1) := by decide +kernel
theorem dX12_drifts_3 : decode cX12_drifts 3 = .ok (.iconst 5, 1) := by decide +kernel
theorem dX12_drifts_4 : decode cX12_drifts 4 = .ok (.if_icmp .ge 92, 3) := by decide +kernel
theorem dX12_drifts_7 : decode cX12_drifts 7 = .ok (.aload_n 0, 1) := by decide +kernel
theorem dX12_drifts_8 : decode cX12_drifts 8 = .ok (.aload_n 0, 1) := by decide +kernel
theorem dX12_drifts_9 : decode cX12_drifts 9 = .ok (.getfield 7, 3) := by decide +kernel
theorem dX12_drifts_12 : decode cX12_drifts 12 = .ok (.iload_n 1, 1) := by decide +kernel
theorem dX12_drifts_13 : decode cX12_drifts 13 = .ok (.iconst 5, 1) := by decide +kernel
theorem dX12_drifts_14 : decode cX12_drifts 14 = .ok (.invokevirtual 83, 3) := by decide +kernel
theorem dX12_drifts_17 : decode cX12_drifts 17 = .ok (.iconst 0, 1) := by decide +kernel
theorem dX12_drifts_18 : decode cX12_drifts 18 = .ok (.istore_n 2, 1) := by decide +kernel
theorem dX12_drifts_19 : decode cX12_drifts 19 = .ok (.iload_n 2, 1) := by decide +kernel
theorem dX12_drifts_20 : decode cX12_drifts 20 = .ok (.bipush 8, 2) := by decide +kernel
theorem dX12_drifts_22 : decode cX12_drifts 22 = .ok (.if_icmp .ge 68, 3) := by decide +kernel
theorem dX12_drifts_25 : decode cX12_drifts 25 = .ok (.bipush 8, 2) := by decide +kernel
theorem dX12_drifts_27 : decode cX12_drifts 27 = .ok (.iload_n 1, 1) := by decide +kernel
theorem dX12_drifts_28 : decode cX12_drifts 28 = .ok (.imul, 1) := by decide +kernel
theorem dX12_drifts_29 : decode cX12_drifts 29 = .ok (.iload_n 2, 1) := by decide +kernel
theorem dX12_drifts_30 : decode cX12_drifts 30 = .ok (.iadd, 1) := by decide +kernel
theorem dX12_drifts_31 : decode cX12_drifts 31 = .ok (.istore_n 3, 1) := by decide +kernel
theorem dX12_drifts_32 : decode cX12_drifts 32 = .ok (.aload_n 0, 1) := by decide +kernel
theorem dX12_drifts_33 : decode cX12_drifts 33 = .ok (.aload_n 0, 1) := by decide +kernel
theorem dX12_drifts_34 : decode cX12_drifts 34 = .ok (.getfield 13, 3) := by decide +kernel
theorem dX12_drifts_37 : decode cX12_drifts 37 = .ok (.iload_n 3, 1) := by decide +kernel
theorem dX12_drifts_38 : decode cX12_drifts 38 = .ok (.bipush 40, 2) := by decide +kernel
theorem dX12_drifts_40 : decode cX12_drifts 40 = .ok (.iload_n 2, 1) := by decide +kernel
theorem dX12_drifts_41 : decode cX12_drifts 41 = .ok (.iadd, 1) := by decide +kernel
theorem dX12_drifts_42 : decode cX12_drifts 42 = .ok (.invokevirtual 83, 3) := by decide +kernel
theorem dX12_drifts_45 : decode cX12_drifts 45 = .ok (.aload_n 0, 1) := by decide +kernel
theorem dX12_drifts_46 : decode cX12_drifts 46 = .ok (.aload_n 0, 1) := by decide +kernel
theorem dX12_drifts_47 : decode cX12_drifts 47 = .ok (.getfield 16, 3) := by decide +kernel
theorem dX12_drifts_50 : decode cX12_drifts 50 = .ok (.iload_n 3, 1) := by decide +kernel
theorem dX12_drifts_51 : decode cX12_drifts 51 = .ok (.bipush 40, 2) := by decide +kernel
theorem dX12_drifts_53 : decode cX12_drifts 53 = .ok (.iload_n 2, 1) := by decide +kernel
theorem dX12_drifts_54 : decode cX12_drifts 54 = .ok (.iadd, 1) := by decide +kernel
theorem dX12_drifts_55 : decode cX12_drifts 55 = .ok (.invokevirtual 83, 3) := by decide +kernel
theorem dX12_drifts_58 : decode cX12_drifts 58 = .ok (.aload_n 0, 1) := by decide +kernel
theorem dX12_drifts_59 : decode cX12_drifts 59 = .ok (.aload_n 0, 1) := by decide +kernel
theorem dX12_drifts_60 : decode cX12_drifts 60 = .ok (.getfield 19, 3) := by decide +kernel
theorem dX12_drifts_63 : decode cX12_drifts 63 = .ok (.iload_n 3, 1) := by decide +kernel
theorem dX12_drifts_64 : decode cX12_drifts 64 = .ok (.bipush 40, 2) := by decide +kernel
theorem dX12_drifts_66 : decode cX12_drifts 66 = .ok (.iload_n 2, 1) := by decide +kernel
theorem dX12_drifts_67 : decode cX12_drifts 67 = .ok (.iadd, 1) := by decide +kernel
theorem dX12_drifts_68 : decode cX12_drifts 68 = .ok (.invokevirtual 83, 3) := by decide +kernel
theorem dX12_drifts_71 : decode cX12_drifts 71 = .ok (.aload_n 0, 1) := by decide +kernel
theorem dX12_drifts_72 : decode cX12_drifts 72 = .ok (.aload_n 0, 1) := by decide +kernel
theorem dX12_drifts_73 : decode cX12_drifts 73 = .ok (.getfield 22, 3) := by decide +kernel
theorem dX12_drifts_76 : decode cX12_drifts 76 = .ok (.iload_n 3, 1) := by decide +kernel
theorem dX12_drifts_77 : decode cX12_drifts 77 = .ok (.bipush 40, 2) := by decide +kernel
theorem dX12_drifts_79 : decode cX12_drifts 79 = .ok (.iload_n 2, 1) := by decide +kernel
theorem dX12_drifts_80 : decode cX12_drifts 80 = .ok (.iadd, 1) := by decide +kernel
theorem dX12_drifts_81 : decode cX12_drifts 81 = .ok (.invokevirtual 83, 3) := by decide +kernel
theorem dX12_drifts_84 : decode cX12_drifts 84 = .ok (.iinc 2 1, 3) := by decide +kernel
theorem dX12_drifts_87 : decode cX12_drifts 87 = .ok (.goto (-68), 3) := by decide +kernel
theorem dX12_drifts_90 : decode cX12_drifts 90 = .ok (.iinc 1 1, 3) := by decide +kernel
theorem dX12_drifts_93 : decode cX12_drifts 93 = .ok (.goto (-91), 3) := by decide +kernel
theorem dX12_drifts_96 : decode cX12_drifts 96 = .ok (.return_, 1) := by decide +kernel
theorem dX12_carry_0 : decode cX12_carry 0 = .ok (.aload_n 0, 1) := by decide +kernel
theorem dX12_carry_1 : decode cX12_carry 1 = .ok (.getfield 87, 3) := by decide +kernel
theorem dX12_carry_4 : decode cX12_carry 4 = .ok (.ifCond .eq 13, 3) := by decide +kernel
theorem dX12_carry_7 : decode cX12_carry 7 = .ok (.aload_n 0, 1) := by decide +kernel
theorem dX12_carry_8 : decode cX12_carry 8 = .ok (.getfield 91, 3) := by decide +kernel
theorem dX12_carry_11 : decode cX12_carry 11 = .ok (.aload_n 0, 1) := by decide +kernel
theorem dX12_carry_12 : decode cX12_carry 12 = .ok (.getfield 94, 3) := by decide +kernel
theorem dX12_carry_15 : decode cX12_carry 15 = .ok (.iload_n 1, 1) := by decide +kernel
theorem dX12_carry_16 : decode cX12_carry 16 = .ok (.iastore, 1) := by decide +kernel
theorem dX12_carry_17 : decode cX12_carry 17 = .ok (.aload_n 0, 1) := by decide +kernel
theorem dX12_carry_18 : decode cX12_carry 18 = .ok (.dup, 1) := by decide +kernel
theorem dX12_carry_19 : decode cX12_carry 19 = .ok (.getfield 94, 3) := by decide +kernel
theorem dX12_carry_22 : decode cX12_carry 22 = .ok (.iconst 1, 1) := by decide +kernel
theorem dX12_carry_23 : decode cX12_carry 23 = .ok (.iadd, 1) := by decide +kernel
theorem dX12_carry_24 : decode cX12_carry 24 = .ok (.putfield 94, 3) := by decide +kernel
theorem dX12_carry_27 : decode cX12_carry 27 = .ok (.aload_n 0, 1) := by decide +kernel
theorem dX12_carry_28 : decode cX12_carry 28 = .ok (.getfield 91, 3) := by decide +kernel
theorem dX12_carry_31 : decode cX12_carry 31 = .ok (.aload_n 0, 1) := by decide +kernel
theorem dX12_carry_32 : decode cX12_carry 32 = .ok (.getfield 94, 3) := by decide +kernel
theorem dX12_carry_35 : decode cX12_carry 35 = .ok (.iconst 1, 1) := by decide +kernel
theorem dX12_carry_36 : decode cX12_carry 36 = .ok (.isub, 1) := by decide +kernel
theorem dX12_carry_37 : decode cX12_carry 37 = .ok (.iaload, 1) := by decide +kernel
theorem dX12_carry_38 : decode cX12_carry 38 = .ok (.ireturn, 1) := by decide +kernel
set_option maxRecDepth 20000 in
theorem ggX12_carryAll_X12_carry : GoodIn wsX12_carryAll wsX12_carry := goodIn_r _ [14, 2, 1, 3, 15, 16, 17, 18, 19, 20, 21, 22, 23, 24, 25, 26, 27, 28, 29, 30, 31, 32, 33, 34, 35, 36, 37, 38, 39, 40, 41, 42, 43] (by decide +kernel) (by decide +kernel)
set_option maxRecDepth 20000 in
theorem gX12_carryAll_X12_carry : GoodIn wsX12_carryAll (wsV RX12 97 RX12 yX12_carry wsX12_carry) := goodIn_app (goodIn_of _ (by decide +kernel)) ggX12_carryAll_X12_carry
theorem dX12_carryAll_0 : decode cX12_carryAll 0 = .ok (.aload_n 0, 1) := by decide +kernel
theorem dX12_carryAll_1 : decode cX12_carryAll 1 = .ok (.aload_n 1, 1) := by decide +kernel
theorem dX12_carryAll_2 : decode cX12_carryAll 2 = .ok (.putfield 91, 3) := by decide +kernel
theorem dX12_carryAll_5 : decode cX12_carryAll 5 = .ok (.aload_n 0, 1) := by decide +kernel
theorem dX12_carryAll_6 : decode cX12_carryAll 6 = .ok (.iload_n 2, 1) := by decide +kernel
theorem dX12_carryAll_7 : decode cX12_carryAll 7 = .ok (.putfield 87, 3) := by decide +kernel
theorem dX12_carryAll_10 : decode cX12_carryAll 10 = .ok (.aload_n 0, 1) := by decide +kernel
theorem dX12_carryAll_11 : decode cX12_carryAll 11 = .ok (.iconst 0, 1) := by decide +kernel
theorem dX12_carryAll_12 : decode cX12_carryAll 12 = .ok (.putfield 94, 3) := by decide +kernel
theorem dX12_carryAll_15 : decode cX12_carryAll 15 = .ok (.aload_n 0, 1) := by decide +kernel
theorem dX12_carryAll_16 : decode cX12_carryAll 16 = .ok (.aload_n 0, 1) := by decide +kernel
theorem dX12_carryAll_17 : decode cX12_carryAll 17 = .ok (.aload_n 0, 1) := by decide +kernel
theorem dX12_carryAll_18 : decode cX12_carryAll 18 = .ok (.getfield 72, 3) := by decide +kernel
theorem dX12_carryAll_21 : decode cX12_carryAll 21 = .ok (.invokevirtual 97, 3) := by decide +kernel
theorem dX12_carryAll_24 : decode cX12_carryAll 24 = .ok (.putfield 72, 3) := by decide +kernel
theorem dX12_carryAll_27 : decode cX12_carryAll 27 = .ok (.iconst 0, 1) := by decide +kernel
theorem dX12_carryAll_28 : decode cX12_carryAll 28 = .ok (.istore_n 3, 1) := by decide +kernel
theorem dX12_carryAll_29 : decode cX12_carryAll 29 = .ok (.iload_n 3, 1) := by decide +kernel
theorem dX12_carryAll_30 : decode cX12_carryAll 30 = .ok (.bipush 6, 2) := by decide +kernel
theorem dX12_carryAll_32 : decode cX12_carryAll 32 = .ok (.if_icmp .ge 25, 3) := by decide +kernel
theorem dX12_carryAll_35 : decode cX12_carryAll 35 = .ok (.aload_n 0, 1) := by decide +kernel
theorem dX12_carryAll_36 : decode cX12_carryAll 36 = .ok (.getfield 7, 3) := by decide +kernel
theorem dX12_carryAll_39 : decode cX12_carryAll 39 = .ok (.iload_n 3, 1) := by decide +kernel
theorem dX12_carryAll_40 : decode cX12_carryAll 40 = .ok (.aload_n 0, 1) := by decide +kernel
theorem dX12_carryAll_41 : decode cX12_carryAll 41 = .ok (.aload_n 0, 1) := by decide +kernel
theorem dX12_carryAll_42 : decode cX12_carryAll 42 = .ok (.getfield 7, 3) := by decide +kernel
theorem dX12_carryAll_45 : decode cX12_carryAll 45 = .ok (.iload_n 3, 1) := by decide +kernel
theorem dX12_carryAll_46 : decode cX12_carryAll 46 = .ok (.iaload, 1) := by decide +kernel
theorem dX12_carryAll_47 : decode cX12_carryAll 47 = .ok (.invokevirtual 97, 3) := by decide +kernel
theorem dX12_carryAll_50 : decode cX12_carryAll 50 = .ok (.iastore, 1) := by decide +kernel
theorem dX12_carryAll_51 : decode cX12_carryAll 51 = .ok (.iinc 3 1, 3) := by decide +kernel
theorem dX12_carryAll_54 : decode cX12_carryAll 54 = .ok (.goto (-25), 3) := by decide +kernel
theorem dX12_carryAll_57 : decode cX12_carryAll 57 = .ok (.iconst 0, 1) := by decide +kernel
theorem dX12_carryAll_58 : decode cX12_carryAll 58 = .ok (.istore_n 3, 1) := by decide +kernel
theorem dX12_carryAll_59 : decode cX12_carryAll 59 = .ok (.iload_n 3, 1) := by decide +kernel
theorem dX12_carryAll_60 : decode cX12_carryAll 60 = .ok (.bipush 48, 2) := by decide +kernel
theorem dX12_carryAll_62 : decode cX12_carryAll 62 = .ok (.if_icmp .ge 73, 3) := by decide +kernel
theorem dX12_carryAll_65 : decode cX12_carryAll 65 = .ok (.aload_n 0, 1) := by decide +kernel
theorem dX12_carryAll_66 : decode cX12_carryAll 66 = .ok (.getfield 13, 3) := by decide +kernel
theorem dX12_carryAll_69 : decode cX12_carryAll 69 = .ok (.iload_n 3, 1) := by decide +kernel
theorem dX12_carryAll_70 : decode cX12_carryAll 70 = .ok (.aload_n 0, 1) := by decide +kernel
theorem dX12_carryAll_71 : decode cX12_carryAll 71 = .ok (.aload_n 0, 1) := by decide +kernel
theorem dX12_carryAll_72 : decode cX12_carryAll 72 = .ok (.getfield 13, 3) := by decide +kernel
theorem dX12_carryAll_75 : decode cX12_carryAll 75 = .ok (.iload_n 3, 1) := by decide +kernel
theorem dX12_carryAll_76 : decode cX12_carryAll 76 = .ok (.iaload, 1) := by decide +kernel
theorem dX12_carryAll_77 : decode cX12_carryAll 77 = .ok (.invokevirtual 97, 3) := by decide +kernel
theorem dX12_carryAll_80 : decode cX12_carryAll 80 = .ok (.iastore, 1) := by decide +kernel
theorem dX12_carryAll_81 : decode cX12_carryAll 81 = .ok (.aload_n 0, 1) := by decide +kernel
theorem dX12_carryAll_82 : decode cX12_carryAll 82 = .ok (.getfield 16, 3) := by decide +kernel
theorem dX12_carryAll_85 : decode cX12_carryAll 85 = .ok (.iload_n 3, 1) := by decide +kernel
theorem dX12_carryAll_86 : decode cX12_carryAll 86 = .ok (.aload_n 0, 1) := by decide +kernel
theorem dX12_carryAll_87 : decode cX12_carryAll 87 = .ok (.aload_n 0, 1) := by decide +kernel
theorem dX12_carryAll_88 : decode cX12_carryAll 88 = .ok (.getfield 16, 3) := by decide +kernel
theorem dX12_carryAll_91 : decode cX12_carryAll 91 = .ok (.iload_n 3, 1) := by decide +kernel
theorem dX12_carryAll_92 : decode cX12_carryAll 92 = .ok (.iaload, 1) := by decide +kernel
theorem dX12_carryAll_93 : decode cX12_carryAll 93 = .ok (.invokevirtual 97, 3) := by decide +kernel
theorem dX12_carryAll_96 : decode cX12_carryAll 96 = .ok (.iastore, 1) := by decide +kernel
theorem dX12_carryAll_97 : decode cX12_carryAll 97 = .ok (.aload_n 0, 1) := by decide +kernel
theorem dX12_carryAll_98 : decode cX12_carryAll 98 = .ok (.getfield 19, 3) := by decide +kernel
theorem dX12_carryAll_101 : decode cX12_carryAll 101 = .ok (.iload_n 3, 1) := by decide +kernel
theorem dX12_carryAll_102 : decode cX12_carryAll 102 = .ok (.aload_n 0, 1) := by decide +kernel
theorem dX12_carryAll_103 : decode cX12_carryAll 103 = .ok (.aload_n 0, 1) := by decide +kernel
theorem dX12_carryAll_104 : decode cX12_carryAll 104 = .ok (.getfield 19, 3) := by decide +kernel
theorem dX12_carryAll_107 : decode cX12_carryAll 107 = .ok (.iload_n 3, 1) := by decide +kernel
theorem dX12_carryAll_108 : decode cX12_carryAll 108 = .ok (.iaload, 1) := by decide +kernel
theorem dX12_carryAll_109 : decode cX12_carryAll 109 = .ok (.invokevirtual 97, 3) := by decide +kernel
theorem dX12_carryAll_112 : decode cX12_carryAll 112 = .ok (.iastore, 1) := by decide +kernel
theorem dX12_carryAll_113 : decode cX12_carryAll 113 = .ok (.aload_n 0, 1) := by decide +kernel
theorem dX12_carryAll_114 : decode cX12_carryAll 114 = .ok (.getfield 22, 3) := by decide +kernel
theorem dX12_carryAll_117 : decode cX12_carryAll 117 = .ok (.iload_n 3, 1) := by decide +kernel
theorem dX12_carryAll_118 : decode cX12_carryAll 118 = .ok (.aload_n 0, 1) := by decide +kernel
theorem dX12_carryAll_119 : decode cX12_carryAll 119 = .ok (.aload_n 0, 1) := by decide +kernel
theorem dX12_carryAll_120 : decode cX12_carryAll 120 = .ok (.getfield 22, 3) := by decide +kernel
theorem dX12_carryAll_123 : decode cX12_carryAll 123 = .ok (.iload_n 3, 1) := by decide +kernel
theorem dX12_carryAll_124 : decode cX12_carryAll 124 = .ok (.iaload, 1) := by decide +kernel
theorem dX12_carryAll_125 : decode cX12_carryAll 125 = .ok (.invokevirtual 97, 3) := by decide +kernel
theorem dX12_carryAll_128 : decode cX12_carryAll 128 = .ok (.iastore, 1) := by decide +kernel
theorem dX12_carryAll_129 : decode cX12_carryAll 129 = .ok (.iinc 3 1, 3) := by decide +kernel
theorem dX12_carryAll_132 : decode cX12_carryAll 132 = .ok (.goto (-73), 3) := by decide +kernel
theorem dX12_carryAll_135 : decode cX12_carryAll 135 = .ok (.return_, 1) := by decide +kernel
set_option maxRecDepth 20000 in
theorem ggX12_open_X12_carryAll : GoodIn wsX12_open wsX12_carryAll := goodIn_r _ [6, 7, 8, 9, 10, 11, 12, 13, 14, 15, 16, 17, 18, 5, 19, 20, 21, 22, 23, 24, 25, 26, 27, 28, 29, 30, 31, 32, 33, 34, 35, 36, 37, 38, 39, 40, 41, 42, 43, 44, 45, 46, 47, 48] (by decide +kernel) (by decide +kernel)
set_option maxRecDepth 20000 in
theorem gX12_open_X12_carryAll : GoodIn wsX12_open (wsV RX12 101 RX12 yX12_carryAll wsX12_carryAll) := goodIn_app (goodIn_of _ (by decide +kernel)) ggX12_open_X12_carryAll
theorem dX12_open_0 : decode cX12_open 0 = .ok (.aload_n 0, 1) := by decide +kernel
theorem dX12_open_1 : decode cX12_open 1 = .ok (.aload_n 0, 1) := by decide +kernel
theorem dX12_open_2 : decode cX12_open 2 = .ok (.getfield 25, 3) := by decide +kernel
theorem dX12_open_5 : decode cX12_open 5 = .ok (.iconst 1, 1) := by decide +kernel
theorem dX12_open_6 : decode cX12_open 6 = .ok (.invokevirtual 101, 3) := by decide +kernel
theorem dX12_open_9 : decode cX12_open 9 = .ok (.return_, 1) := by decide +kernel
set_option maxRecDepth 20000 in
theorem ggX12_close_X12_carryAll : GoodIn wsX12_close wsX12_carryAll := goodIn_r _ [6, 7, 8, 9, 10, 11, 12, 13, 14, 15, 16, 17, 18, 5, 19, 20, 21, 22, 23, 24, 25, 26, 27, 28, 29, 30, 31, 32, 33, 34, 35, 36, 37, 38, 39, 40, 41, 42, 43, 44, 45, 46, 47, 48] (by decide +kernel) (by decide +kernel)
set_option maxRecDepth 20000 in
theorem gX12_close_X12_carryAll : GoodIn wsX12_close (wsV RX12 101 RX12 yX12_carryAll wsX12_carryAll) := goodIn_app (goodIn_of _ (by decide +kernel)) ggX12_close_X12_carryAll
theorem dX12_close_0 : decode cX12_close 0 = .ok (.aload_n 0, 1) := by decide +kernel
theorem dX12_close_1 : decode cX12_close 1 = .ok (.aload_n 0, 1) := by decide +kernel
theorem dX12_close_2 : decode cX12_close 2 = .ok (.getfield 25, 3) := by decide +kernel
theorem dX12_close_5 : decode cX12_close 5 = .ok (.iconst 0, 1) := by decide +kernel
theorem dX12_close_6 : decode cX12_close 6 = .ok (.invokevirtual 101, 3) := by decide +kernel
theorem dX12_close_9 : decode cX12_close 9 = .ok (.return_, 1) := by decide +kernel
theorem dX12_iceOf_0 : decode cX12_iceOf 0 = .ok (.iconst 0, 1) := by decide +kernel
theorem dX12_iceOf_1 : decode cX12_iceOf 1 = .ok (.istore_n 2, 1) := by decide +kernel
theorem dX12_iceOf_2 : decode cX12_iceOf 2 = .ok (.iconst 0, 1) := by decide +kernel
theorem dX12_iceOf_3 : decode cX12_iceOf 3 = .ok (.istore_n 3, 1) := by decide +kernel
theorem dX12_iceOf_4 : decode cX12_iceOf 4 = .ok (.iload_n 3, 1) := by decide +kernel
theorem dX12_iceOf_5 : decode cX12_iceOf 5 = .ok (.aload_n 0, 1) := by decide +kernel
theorem dX12_iceOf_6 : decode cX12_iceOf 6 = .ok (.getfield 7, 3) := by decide +kernel
theorem dX12_iceOf_9 : decode cX12_iceOf 9 = .ok (.iload_n 1, 1) := by decide +kernel
theorem dX12_iceOf_10 : decode cX12_iceOf 10 = .ok (.iaload, 1) := by decide +kernel
theorem dX12_iceOf_11 : decode cX12_iceOf 11 = .ok (.if_icmp .ge 23, 3) := by decide +kernel
theorem dX12_iceOf_14 : decode cX12_iceOf 14 = .ok (.iload_n 2, 1) := by decide +kernel
theorem dX12_iceOf_15 : decode cX12_iceOf 15 = .ok (.aload_n 0, 1) := by decide +kernel
theorem dX12_iceOf_16 : decode cX12_iceOf 16 = .ok (.getfield 22, 3) := by decide +kernel
theorem dX12_iceOf_19 : decode cX12_iceOf 19 = .ok (.bipush 8, 2) := by decide +kernel
theorem dX12_iceOf_21 : decode cX12_iceOf 21 = .ok (.iload_n 1, 1) := by decide +kernel
theorem dX12_iceOf_22 : decode cX12_iceOf 22 = .ok (.imul, 1) := by decide +kernel
theorem dX12_iceOf_23 : decode cX12_iceOf 23 = .ok (.iload_n 3, 1) := by decide +kernel
theorem dX12_iceOf_24 : decode cX12_iceOf 24 = .ok (.iadd, 1) := by decide +kernel
theorem dX12_iceOf_25 : decode cX12_iceOf 25 = .ok (.iaload, 1) := by decide +kernel
theorem dX12_iceOf_26 : decode cX12_iceOf 26 = .ok (.iadd, 1) := by decide +kernel
theorem dX12_iceOf_27 : decode cX12_iceOf 27 = .ok (.istore_n 2, 1) := by decide +kernel
theorem dX12_iceOf_28 : decode cX12_iceOf 28 = .ok (.iinc 3 1, 3) := by decide +kernel
theorem dX12_iceOf_31 : decode cX12_iceOf 31 = .ok (.goto (-27), 3) := by decide +kernel
theorem dX12_iceOf_34 : decode cX12_iceOf 34 = .ok (.iload_n 2, 1) := by decide +kernel
theorem dX12_iceOf_35 : decode cX12_iceOf 35 = .ok (.ireturn, 1) := by decide +kernel
set_option maxRecDepth 20000 in
theorem ggX12_iceOfAll_X12_iceOf : GoodIn wsX12_iceOfAll wsX12_iceOf := goodIn_r _ [5, 6, 7, 8, 9, 10, 11, 12, 13, 14, 15, 16, 17, 18, 19, 20, 21, 22, 23, 24, 25, 26, 27, 28, 29, 30, 31, 32, 33, 34, 35, 36] (by decide +kernel) (by decide +kernel)
set_option maxRecDepth 20000 in
theorem gX12_iceOfAll_X12_iceOf : GoodIn wsX12_iceOfAll (wsV RX12 105 RX12 yX12_iceOf wsX12_iceOf) := goodIn_app (goodIn_of _ (by decide +kernel)) ggX12_iceOfAll_X12_iceOf
theorem dX12_iceOfAll_0 : decode cX12_iceOfAll 0 = .ok (.iconst 0, 1) := by decide +kernel
theorem dX12_iceOfAll_1 : decode cX12_iceOfAll 1 = .ok (.istore_n 1, 1) := by decide +kernel
theorem dX12_iceOfAll_2 : decode cX12_iceOfAll 2 = .ok (.iconst 0, 1) := by decide +kernel
theorem dX12_iceOfAll_3 : decode cX12_iceOfAll 3 = .ok (.istore_n 2, 1) := by decide +kernel
theorem dX12_iceOfAll_4 : decode cX12_iceOfAll 4 = .ok (.iload_n 2, 1) := by decide +kernel
theorem dX12_iceOfAll_5 : decode cX12_iceOfAll 5 = .ok (.bipush 6, 2) := by decide +kernel
theorem dX12_iceOfAll_7 : decode cX12_iceOfAll 7 = .ok (.if_icmp .ge 17, 3) := by decide +kernel
theorem dX12_iceOfAll_10 : decode cX12_iceOfAll 10 = .ok (.iload_n 1, 1) := by decide +kernel
theorem dX12_iceOfAll_11 : decode cX12_iceOfAll 11 = .ok (.aload_n 0, 1) := by decide +kernel
theorem dX12_iceOfAll_12 : decode cX12_iceOfAll 12 = .ok (.iload_n 2, 1) := by decide +kernel
theorem dX12_iceOfAll_13 : decode cX12_iceOfAll 13 = .ok (.invokevirtual 105, 3) := by decide +kernel
theorem dX12_iceOfAll_16 : decode cX12_iceOfAll 16 = .ok (.iadd, 1) := by decide +kernel
theorem dX12_iceOfAll_17 : decode cX12_iceOfAll 17 = .ok (.istore_n 1, 1) := by decide +kernel
theorem dX12_iceOfAll_18 : decode cX12_iceOfAll 18 = .ok (.iinc 2 1, 3) := by decide +kernel
theorem dX12_iceOfAll_21 : decode cX12_iceOfAll 21 = .ok (.goto (-17), 3) := by decide +kernel
theorem dX12_iceOfAll_24 : decode cX12_iceOfAll 24 = .ok (.iload_n 1, 1) := by decide +kernel
theorem dX12_iceOfAll_25 : decode cX12_iceOfAll 25 = .ok (.ireturn, 1) := by decide +kernel
set_option maxRecDepth 20000 in
theorem ggX12_image_X12_carryAll : GoodIn wsX12_image wsX12_carryAll := goodIn_r _ [8, 9, 10, 11, 12, 13, 14, 15, 16, 17, 18, 19, 20, 7, 21, 30, 31, 32, 33, 34, 35, 36, 37, 38, 39, 40, 41, 42, 43, 44, 45, 46, 47, 48, 49, 50, 51, 52, 53, 54, 55, 56, 57, 58] (by decide +kernel) (by decide +kernel)
set_option maxRecDepth 20000 in
theorem gX12_image_X12_carryAll : GoodIn wsX12_image (wsV RX12 101 RX12 yX12_carryAll wsX12_carryAll) := goodIn_app (goodIn_of _ (by decide +kernel)) ggX12_image_X12_carryAll
set_option maxRecDepth 20000 in
theorem ggX12_image_X12_iceOfAll : GoodIn wsX12_image wsX12_iceOfAll := goodIn_r _ [25, 26, 27, 28, 7, 29, 13, 17, 30, 31, 32, 33, 34, 35, 36, 37, 38, 39, 40, 41, 42, 43, 44, 45, 46, 47, 48, 49, 50, 51, 52, 53, 54, 55, 56, 57, 58] (by decide +kernel) (by decide +kernel)
set_option maxRecDepth 20000 in
theorem gX12_image_X12_iceOfAll : GoodIn wsX12_image (wsV RX12 111 RX12 yX12_iceOfAll wsX12_iceOfAll) := goodIn_app (goodIn_of _ (by decide +kernel)) ggX12_image_X12_iceOfAll
theorem dX12_image_0 : decode cX12_image 0 = .ok (.aload_n 0, 1) := by decide +kernel
theorem dX12_image_1 : decode cX12_image 1 = .ok (.iconst 0, 1) := by decide +kernel
theorem dX12_image_2 : decode cX12_image 2 = .ok (.putfield 62, 3) := by decide +kernel
theorem dX12_image_5 : decode cX12_image 5 = .ok (.aload_n 0, 1) := by decide +kernel
theorem dX12_image_6 : decode cX12_image 6 = .ok (.iconst 1, 1) := by decide +kernel
theorem dX12_image_7 : decode cX12_image 7 = .ok (.putfield 108, 3) := by decide +kernel
theorem dX12_image_10 : decode cX12_image 10 = .ok (.aload_n 0, 1) := by decide +kernel
theorem dX12_image_11 : decode cX12_image 11 = .ok (.aload_n 0, 1) := by decide +kernel
theorem dX12_image_12 : decode cX12_image 12 = .ok (.getfield 28, 3) := by decide +kernel
theorem dX12_image_15 : decode cX12_image 15 = .ok (.iconst 1, 1) := by decide +kernel
theorem dX12_image_16 : decode cX12_image 16 = .ok (.invokevirtual 101, 3) := by decide +kernel
theorem dX12_image_19 : decode cX12_image 19 = .ok (.aload_n 0, 1) := by decide +kernel
theorem dX12_image_20 : decode cX12_image 20 = .ok (.invokevirtual 111, 3) := by decide +kernel
theorem dX12_image_23 : decode cX12_image 23 = .ok (.ireturn, 1) := by decide +kernel
set_option maxRecDepth 20000 in
theorem ggX12_restore_X12_carryAll : GoodIn wsX12_restore wsX12_carryAll := goodIn_r _ [8, 9, 10, 11, 12, 13, 14, 15, 16, 17, 18, 19, 20, 7, 21, 30, 31, 32, 33, 34, 35, 36, 37, 38, 39, 40, 41, 42, 43, 44, 45, 46, 47, 48, 49, 50, 51, 52, 53, 54, 55, 56, 57, 58] (by decide +kernel) (by decide +kernel)
set_option maxRecDepth 20000 in
theorem gX12_restore_X12_carryAll : GoodIn wsX12_restore (wsV RX12 101 RX12 yX12_carryAll wsX12_carryAll) := goodIn_app (goodIn_of _ (by decide +kernel)) ggX12_restore_X12_carryAll
set_option maxRecDepth 20000 in
theorem ggX12_restore_X12_iceOfAll : GoodIn wsX12_restore wsX12_iceOfAll := goodIn_r _ [25, 26, 27, 28, 7, 29, 13, 17, 30, 31, 32, 33, 34, 35, 36, 37, 38, 39, 40, 41, 42, 43, 44, 45, 46, 47, 48, 49, 50, 51, 52, 53, 54, 55, 56, 57, 58] (by decide +kernel) (by decide +kernel)
set_option maxRecDepth 20000 in
theorem gX12_restore_X12_iceOfAll : GoodIn wsX12_restore (wsV RX12 111 RX12 yX12_iceOfAll wsX12_iceOfAll) := goodIn_app (goodIn_of _ (by decide +kernel)) ggX12_restore_X12_iceOfAll
theorem dX12_restore_0 : decode cX12_restore 0 = .ok (.aload_n 0, 1) := by decide +kernel
theorem dX12_restore_1 : decode cX12_restore 1 = .ok (.iconst 0, 1) := by decide +kernel
theorem dX12_restore_2 : decode cX12_restore 2 = .ok (.putfield 62, 3) := by decide +kernel
theorem dX12_restore_5 : decode cX12_restore 5 = .ok (.aload_n 0, 1) := by decide +kernel
theorem dX12_restore_6 : decode cX12_restore 6 = .ok (.getfield 108, 3) := by decide +kernel
theorem dX12_restore_9 : decode cX12_restore 9 = .ok (.ifCond .ne 6, 3) := by decide +kernel
theorem dX12_restore_12 : decode cX12_restore 12 = .ok (.bipush (-3), 2) := by decide +kernel
theorem dX12_restore_14 : decode cX12_restore 14 = .ok (.ireturn, 1) := by decide +kernel
theorem dX12_restore_15 : decode cX12_restore 15 = .ok (.aload_n 0, 1) := by decide +kernel
theorem dX12_restore_16 : decode cX12_restore 16 = .ok (.aload_n 0, 1) := by decide +kernel
theorem dX12_restore_17 : decode cX12_restore 17 = .ok (.getfield 28, 3) := by decide +kernel
theorem dX12_restore_20 : decode cX12_restore 20 = .ok (.iconst 0, 1) := by decide +kernel
theorem dX12_restore_21 : decode cX12_restore 21 = .ok (.invokevirtual 101, 3) := by decide +kernel
theorem dX12_restore_24 : decode cX12_restore 24 = .ok (.aload_n 0, 1) := by decide +kernel
theorem dX12_restore_25 : decode cX12_restore 25 = .ok (.invokevirtual 111, 3) := by decide +kernel
theorem dX12_restore_28 : decode cX12_restore 28 = .ok (.ireturn, 1) := by decide +kernel
theorem dX12_here_0 : decode cX12_here 0 = .ok (.aload_n 0, 1) := by decide +kernel
theorem dX12_here_1 : decode cX12_here 1 = .ok (.getfield 115, 3) := by decide +kernel
theorem dX12_here_4 : decode cX12_here 4 = .ok (.aload_n 0, 1) := by decide +kernel
theorem dX12_here_5 : decode cX12_here 5 = .ok (.getfield 118, 3) := by decide +kernel
theorem dX12_here_8 : decode cX12_here 8 = .ok (.if_icmp .lt 7, 3) := by decide +kernel
theorem dX12_here_11 : decode cX12_here 11 = .ok (.iconst (-1), 1) := by decide +kernel
theorem dX12_here_12 : decode cX12_here 12 = .ok (.goto 22, 3) := by decide +kernel
theorem dX12_here_15 : decode cX12_here 15 = .ok (.aload_n 0, 1) := by decide +kernel
theorem dX12_here_16 : decode cX12_here 16 = .ok (.getfield 55, 3) := by decide +kernel
theorem dX12_here_19 : decode cX12_here 19 = .ok (.aload_n 0, 1) := by decide +kernel
theorem dX12_here_20 : decode cX12_here 20 = .ok (.getfield 121, 3) := by decide +kernel
theorem dX12_here_23 : decode cX12_here 23 = .ok (.aload_n 0, 1) := by decide +kernel
theorem dX12_here_24 : decode cX12_here 24 = .ok (.getfield 115, 3) := by decide +kernel
theorem dX12_here_27 : decode cX12_here 27 = .ok (.iadd, 1) := by decide +kernel
theorem dX12_here_28 : decode cX12_here 28 = .ok (.laload, 1) := by decide +kernel
theorem dX12_here_29 : decode cX12_here 29 = .ok (.l2i, 1) := by decide +kernel
theorem dX12_here_30 : decode cX12_here 30 = .ok (.sipush 255, 3) := by decide +kernel
theorem dX12_here_33 : decode cX12_here 33 = .ok (.iand, 1) := by decide +kernel
theorem dX12_here_34 : decode cX12_here 34 = .ok (.ireturn, 1) := by decide +kernel
set_option maxRecDepth 20000 in
theorem ggX12_readDigit_X12_here : GoodIn wsX12_readDigit wsX12_here := goodIn_r _ [11, 4, 12, 5, 6, 16, 17, 18, 19, 20, 21, 22, 23, 24, 25, 26, 27, 28, 29, 30, 31, 32, 33, 34, 35, 36, 37, 38, 39, 40, 41, 42, 43, 44] (by decide +kernel) (by decide +kernel)
set_option maxRecDepth 20000 in
theorem gX12_readDigit_X12_here : GoodIn wsX12_readDigit (wsV RX12 127 RX12 yX12_here wsX12_here) := goodIn_app (goodIn_of _ (by decide +kernel)) ggX12_readDigit_X12_here
set_option maxRecDepth 20000 in
theorem ggX12_readDigit_X12_in : GoodIn wsX12_readDigit wsX12_in := goodIn_r _ [15] (by decide +kernel) (by decide +kernel)
set_option maxRecDepth 20000 in
theorem gX12_readDigit_X12_in : GoodIn wsX12_readDigit (va_wsS RX12 68 yX12_in wsX12_in) := goodIn_app (goodIn_of _ (by decide +kernel)) ggX12_readDigit_X12_in
theorem dX12_readDigit_0 : decode cX12_readDigit 0 = .ok (.aload_n 0, 1) := by decide +kernel
theorem dX12_readDigit_1 : decode cX12_readDigit 1 = .ok (.aload_n 0, 1) := by decide +kernel
theorem dX12_readDigit_2 : decode cX12_readDigit 2 = .ok (.getfield 124, 3) := by decide +kernel
theorem dX12_readDigit_5 : decode cX12_readDigit 5 = .ok (.ifCond .ne 20, 3) := by decide +kernel
theorem dX12_readDigit_8 : decode cX12_readDigit 8 = .ok (.aload_n 0, 1) := by decide +kernel
theorem dX12_readDigit_9 : decode cX12_readDigit 9 = .ok (.invokevirtual 127, 3) := by decide +kernel
theorem dX12_readDigit_12 : decode cX12_readDigit 12 = .ok (.i2l, 1) := by decide +kernel
theorem dX12_readDigit_13 : decode cX12_readDigit 13 = .ok (.ldc2_w 130, 3) := by decide +kernel
theorem dX12_readDigit_16 : decode cX12_readDigit 16 = .ok (.ldc2_w 132, 3) := by decide +kernel
theorem dX12_readDigit_19 : decode cX12_readDigit 19 = .ok (.invokestatic 68, 3) := by decide +kernel
theorem dX12_readDigit_22 : decode cX12_readDigit 22 = .ok (.ifCond .ne 7, 3) := by decide +kernel
theorem dX12_readDigit_25 : decode cX12_readDigit 25 = .ok (.iconst 1, 1) := by decide +kernel
theorem dX12_readDigit_26 : decode cX12_readDigit 26 = .ok (.goto 4, 3) := by decide +kernel
theorem dX12_readDigit_29 : decode cX12_readDigit 29 = .ok (.iconst 0, 1) := by decide +kernel
theorem dX12_readDigit_30 : decode cX12_readDigit 30 = .ok (.putfield 124, 3) := by decide +kernel
theorem dX12_readDigit_33 : decode cX12_readDigit 33 = .ok (.aload_n 0, 1) := by decide +kernel
theorem dX12_readDigit_34 : decode cX12_readDigit 34 = .ok (.getfield 124, 3) := by decide +kernel
theorem dX12_readDigit_37 : decode cX12_readDigit 37 = .ok (.ifCond .eq 5, 3) := by decide +kernel
theorem dX12_readDigit_40 : decode cX12_readDigit 40 = .ok (.iconst 0, 1) := by decide +kernel
theorem dX12_readDigit_41 : decode cX12_readDigit 41 = .ok (.ireturn, 1) := by decide +kernel
theorem dX12_readDigit_42 : decode cX12_readDigit 42 = .ok (.aload_n 0, 1) := by decide +kernel
theorem dX12_readDigit_43 : decode cX12_readDigit 43 = .ok (.dup, 1) := by decide +kernel
theorem dX12_readDigit_44 : decode cX12_readDigit 44 = .ok (.getfield 115, 3) := by decide +kernel
theorem dX12_readDigit_47 : decode cX12_readDigit 47 = .ok (.iconst 1, 1) := by decide +kernel
theorem dX12_readDigit_48 : decode cX12_readDigit 48 = .ok (.iadd, 1) := by decide +kernel
theorem dX12_readDigit_49 : decode cX12_readDigit 49 = .ok (.putfield 115, 3) := by decide +kernel
theorem dX12_readDigit_52 : decode cX12_readDigit 52 = .ok (.aload_n 0, 1) := by decide +kernel
theorem dX12_readDigit_53 : decode cX12_readDigit 53 = .ok (.getfield 55, 3) := by decide +kernel
theorem dX12_readDigit_56 : decode cX12_readDigit 56 = .ok (.aload_n 0, 1) := by decide +kernel
theorem dX12_readDigit_57 : decode cX12_readDigit 57 = .ok (.getfield 121, 3) := by decide +kernel
theorem dX12_readDigit_60 : decode cX12_readDigit 60 = .ok (.aload_n 0, 1) := by decide +kernel
theorem dX12_readDigit_61 : decode cX12_readDigit 61 = .ok (.getfield 115, 3) := by decide +kernel
theorem dX12_readDigit_64 : decode cX12_readDigit 64 = .ok (.iadd, 1) := by decide +kernel
theorem dX12_readDigit_65 : decode cX12_readDigit 65 = .ok (.iconst 1, 1) := by decide +kernel
theorem dX12_readDigit_66 : decode cX12_readDigit 66 = .ok (.isub, 1) := by decide +kernel
theorem dX12_readDigit_67 : decode cX12_readDigit 67 = .ok (.laload, 1) := by decide +kernel
theorem dX12_readDigit_68 : decode cX12_readDigit 68 = .ok (.l2i, 1) := by decide +kernel
theorem dX12_readDigit_69 : decode cX12_readDigit 69 = .ok (.bipush 48, 2) := by decide +kernel
theorem dX12_readDigit_71 : decode cX12_readDigit 71 = .ok (.isub, 1) := by decide +kernel
theorem dX12_readDigit_72 : decode cX12_readDigit 72 = .ok (.ireturn, 1) := by decide +kernel
set_option maxRecDepth 20000 in
theorem ggX12_readStatement_X12_here : GoodIn wsX12_readStatement wsX12_here := goodIn_r _ [11, 3, 12, 13, 14, 24, 25, 26, 27, 28, 29, 30, 31, 32, 33, 34, 35, 36, 37, 38, 39, 40, 41, 42, 43, 44, 45, 46, 47, 48, 49, 50, 51, 52] (by decide +kernel) (by decide +kernel)
set_option maxRecDepth 20000 in
theorem gX12_readStatement_X12_here : GoodIn wsX12_readStatement (wsV RX12 127 RX12 yX12_here wsX12_here) := goodIn_app (goodIn_of _ (by decide +kernel)) ggX12_readStatement_X12_here
set_option maxRecDepth 20000 in
theorem ggX12_readStatement_X12_readDigit : GoodIn wsX12_readStatement wsX12_readDigit := goodIn_r _ [18, 5, 19, 20, 3, 13, 14, 7, 8, 9, 10, 11, 12, 21, 22, 23, 24, 25, 26, 27, 28, 29, 30, 31, 32, 33, 34, 35, 36, 37, 38, 39, 40, 41, 42, 43, 44, 45, 46, 47, 48, 49, 50, 51, 52] (by decide +kernel) (by decide +kernel)
set_option maxRecDepth 20000 in
theorem gX12_readStatement_X12_readDigit : GoodIn wsX12_readStatement (wsV RX12 137 RX12 yX12_readDigit wsX12_readDigit) := goodIn_app (goodIn_of _ (by decide +kernel)) ggX12_readStatement_X12_readDigit
theorem dX12_readStatement_0 : decode cX12_readStatement 0 = .ok (.aload_n 0, 1) := by decide +kernel
theorem dX12_readStatement_1 : decode cX12_readStatement 1 = .ok (.getfield 134, 3) := by decide +kernel
theorem dX12_readStatement_4 : decode cX12_readStatement 4 = .ok (.istore_n 1, 1) := by decide +kernel
theorem dX12_readStatement_5 : decode cX12_readStatement 5 = .ok (.aload_n 0, 1) := by decide +kernel
theorem dX12_readStatement_6 : decode cX12_readStatement 6 = .ok (.invokevirtual 127, 3) := by decide +kernel
theorem dX12_readStatement_9 : decode cX12_readStatement 9 = .ok (.istore_n 2, 1) := by decide +kernel
theorem dX12_readStatement_10 : decode cX12_readStatement 10 = .ok (.aload_n 0, 1) := by decide +kernel
theorem dX12_readStatement_11 : decode cX12_readStatement 11 = .ok (.getfield 31, 3) := by decide +kernel
theorem dX12_readStatement_14 : decode cX12_readStatement 14 = .ok (.iload_n 1, 1) := by decide +kernel
theorem dX12_readStatement_15 : decode cX12_readStatement 15 = .ok (.aload_n 0, 1) := by decide +kernel
theorem dX12_readStatement_16 : decode cX12_readStatement 16 = .ok (.getfield 115, 3) := by decide +kernel
theorem dX12_readStatement_19 : decode cX12_readStatement 19 = .ok (.iastore, 1) := by decide +kernel
theorem dX12_readStatement_20 : decode cX12_readStatement 20 = .ok (.aload_n 0, 1) := by decide +kernel
theorem dX12_readStatement_21 : decode cX12_readStatement 21 = .ok (.getfield 34, 3) := by decide +kernel
theorem dX12_readStatement_24 : decode cX12_readStatement 24 = .ok (.iload_n 1, 1) := by decide +kernel
theorem dX12_readStatement_25 : decode cX12_readStatement 25 = .ok (.iload_n 2, 1) := by decide +kernel
theorem dX12_readStatement_26 : decode cX12_readStatement 26 = .ok (.iastore, 1) := by decide +kernel
theorem dX12_readStatement_27 : decode cX12_readStatement 27 = .ok (.aload_n 0, 1) := by decide +kernel
theorem dX12_readStatement_28 : decode cX12_readStatement 28 = .ok (.aload_n 0, 1) := by decide +kernel
theorem dX12_readStatement_29 : decode cX12_readStatement 29 = .ok (.getfield 124, 3) := by decide +kernel
theorem dX12_readStatement_32 : decode cX12_readStatement 32 = .ok (.ifCond .ne 33, 3) := by decide +kernel
theorem dX12_readStatement_35 : decode cX12_readStatement 35 = .ok (.iload_n 2, 1) := by decide +kernel
theorem dX12_readStatement_36 : decode cX12_readStatement 36 = .ok (.bipush 110, 2) := by decide +kernel
theorem dX12_readStatement_38 : decode cX12_readStatement 38 = .ok (.if_icmp .eq 31, 3) := by decide +kernel
theorem dX12_readStatement_41 : decode cX12_readStatement 41 = .ok (.iload_n 2, 1) := by decide +kernel
theorem dX12_readStatement_42 : decode cX12_readStatement 42 = .ok (.bipush 116, 2) := by decide +kernel
theorem dX12_readStatement_44 : decode cX12_readStatement 44 = .ok (.if_icmp .eq 25, 3) := by decide +kernel
theorem dX12_readStatement_47 : decode cX12_readStatement 47 = .ok (.iload_n 2, 1) := by decide +kernel
theorem dX12_readStatement_48 : decode cX12_readStatement 48 = .ok (.bipush 99, 2) := by decide +kernel
theorem dX12_readStatement_50 : decode cX12_readStatement 50 = .ok (.if_icmp .eq 19, 3) := by decide +kernel
theorem dX12_readStatement_53 : decode cX12_readStatement 53 = .ok (.iload_n 2, 1) := by decide +kernel
theorem dX12_readStatement_54 : decode cX12_readStatement 54 = .ok (.bipush 100, 2) := by decide +kernel
theorem dX12_readStatement_56 : decode cX12_readStatement 56 = .ok (.if_icmp .eq 13, 3) := by decide +kernel
theorem dX12_readStatement_59 : decode cX12_readStatement 59 = .ok (.iload_n 2, 1) := by decide +kernel
theorem dX12_readStatement_60 : decode cX12_readStatement 60 = .ok (.bipush 119, 2) := by decide +kernel
theorem dX12_readStatement_62 : decode cX12_readStatement 62 = .ok (.if_icmp .eq 7, 3) := by decide +kernel
theorem dX12_readStatement_65 : decode cX12_readStatement 65 = .ok (.iconst 1, 1) := by decide +kernel
theorem dX12_readStatement_66 : decode cX12_readStatement 66 = .ok (.goto 4, 3) := by decide +kernel
theorem dX12_readStatement_69 : decode cX12_readStatement 69 = .ok (.iconst 0, 1) := by decide +kernel
theorem dX12_readStatement_70 : decode cX12_readStatement 70 = .ok (.putfield 124, 3) := by decide +kernel
theorem dX12_readStatement_73 : decode cX12_readStatement 73 = .ok (.aload_n 0, 1) := by decide +kernel
theorem dX12_readStatement_74 : decode cX12_readStatement 74 = .ok (.dup, 1) := by decide +kernel
theorem dX12_readStatement_75 : decode cX12_readStatement 75 = .ok (.getfield 115, 3) := by decide +kernel
theorem dX12_readStatement_78 : decode cX12_readStatement 78 = .ok (.aload_n 0, 1) := by decide +kernel
theorem dX12_readStatement_79 : decode cX12_readStatement 79 = .ok (.getfield 124, 3) := by decide +kernel
theorem dX12_readStatement_82 : decode cX12_readStatement 82 = .ok (.ifCond .eq 7, 3) := by decide +kernel
theorem dX12_readStatement_85 : decode cX12_readStatement 85 = .ok (.iconst 0, 1) := by decide +kernel
theorem dX12_readStatement_86 : decode cX12_readStatement 86 = .ok (.goto 4, 3) := by decide +kernel
theorem dX12_readStatement_89 : decode cX12_readStatement 89 = .ok (.iconst 1, 1) := by decide +kernel
theorem dX12_readStatement_90 : decode cX12_readStatement 90 = .ok (.iadd, 1) := by decide +kernel
theorem dX12_readStatement_91 : decode cX12_readStatement 91 = .ok (.putfield 115, 3) := by decide +kernel
theorem dX12_readStatement_94 : decode cX12_readStatement 94 = .ok (.iload_n 2, 1) := by decide +kernel
theorem dX12_readStatement_95 : decode cX12_readStatement 95 = .ok (.bipush 110, 2) := by decide +kernel
theorem dX12_readStatement_97 : decode cX12_readStatement 97 = .ok (.if_icmp .ne 7, 3) := by decide +kernel
theorem dX12_readStatement_100 : decode cX12_readStatement 100 = .ok (.iconst 4, 1) := by decide +kernel
theorem dX12_readStatement_101 : decode cX12_readStatement 101 = .ok (.goto 24, 3) := by decide +kernel
theorem dX12_readStatement_104 : decode cX12_readStatement 104 = .ok (.iload_n 2, 1) := by decide +kernel
theorem dX12_readStatement_105 : decode cX12_readStatement 105 = .ok (.bipush 99, 2) := by decide +kernel
theorem dX12_readStatement_107 : decode cX12_readStatement 107 = .ok (.if_icmp .ne 7, 3) := by decide +kernel
theorem dX12_readStatement_110 : decode cX12_readStatement 110 = .ok (.iconst 3, 1) := by decide +kernel
theorem dX12_readStatement_111 : decode cX12_readStatement 111 = .ok (.goto 14, 3) := by decide +kernel
theorem dX12_readStatement_114 : decode cX12_readStatement 114 = .ok (.iload_n 2, 1) := by decide +kernel
theorem dX12_readStatement_115 : decode cX12_readStatement 115 = .ok (.bipush 116, 2) := by decide +kernel
theorem dX12_readStatement_117 : decode cX12_readStatement 117 = .ok (.if_icmp .ne 7, 3) := by decide +kernel
theorem dX12_readStatement_120 : decode cX12_readStatement 120 = .ok (.iconst 1, 1) := by decide +kernel
theorem dX12_readStatement_121 : decode cX12_readStatement 121 = .ok (.goto 4, 3) := by decide +kernel
theorem dX12_readStatement_124 : decode cX12_readStatement 124 = .ok (.iconst 0, 1) := by decide +kernel
theorem dX12_readStatement_125 : decode cX12_readStatement 125 = .ok (.istore_n 3, 1) := by decide +kernel
theorem dX12_readStatement_126 : decode cX12_readStatement 126 = .ok (.iconst 0, 1) := by decide +kernel
theorem dX12_readStatement_127 : decode cX12_readStatement 127 = .ok (.istore 4, 2) := by decide +kernel
theorem dX12_readStatement_129 : decode cX12_readStatement 129 = .ok (.iload 4, 2) := by decide +kernel
theorem dX12_readStatement_131 : decode cX12_readStatement 131 = .ok (.iload_n 3, 1) := by decide +kernel
theorem dX12_readStatement_132 : decode cX12_readStatement 132 = .ok (.if_icmp .ge 24, 3) := by decide +kernel
theorem dX12_readStatement_135 : decode cX12_readStatement 135 = .ok (.aload_n 0, 1) := by decide +kernel
theorem dX12_readStatement_136 : decode cX12_readStatement 136 = .ok (.getfield 37, 3) := by decide +kernel
theorem dX12_readStatement_139 : decode cX12_readStatement 139 = .ok (.iconst 4, 1) := by decide +kernel
theorem dX12_readStatement_140 : decode cX12_readStatement 140 = .ok (.iload_n 1, 1) := by decide +kernel
theorem dX12_readStatement_141 : decode cX12_readStatement 141 = .ok (.imul, 1) := by decide +kernel
theorem dX12_readStatement_142 : decode cX12_readStatement 142 = .ok (.iload 4, 2) := by decide +kernel
theorem dX12_readStatement_144 : decode cX12_readStatement 144 = .ok (.iadd, 1) := by decide +kernel
theorem dX12_readStatement_145 : decode cX12_readStatement 145 = .ok (.aload_n 0, 1) := by decide +kernel
theorem dX12_readStatement_146 : decode cX12_readStatement 146 = .ok (.invokevirtual 137, 3) := by decide +kernel
theorem dX12_readStatement_149 : decode cX12_readStatement 149 = .ok (.iastore, 1) := by decide +kernel
theorem dX12_readStatement_150 : decode cX12_readStatement 150 = .ok (.iinc 4 1, 3) := by decide +kernel
theorem dX12_readStatement_153 : decode cX12_readStatement 153 = .ok (.goto (-24), 3) := by decide +kernel
theorem dX12_readStatement_156 : decode cX12_readStatement 156 = .ok (.aload_n 0, 1) := by decide +kernel
theorem dX12_readStatement_157 : decode cX12_readStatement 157 = .ok (.aload_n 0, 1) := by decide +kernel
theorem dX12_readStatement_158 : decode cX12_readStatement 158 = .ok (.getfield 124, 3) := by decide +kernel
theorem dX12_readStatement_161 : decode cX12_readStatement 161 = .ok (.ifCond .ne 12, 3) := by decide +kernel
theorem dX12_readStatement_164 : decode cX12_readStatement 164 = .ok (.aload_n 0, 1) := by decide +kernel
theorem dX12_readStatement_165 : decode cX12_readStatement 165 = .ok (.invokevirtual 127, 3) := by decide +kernel
theorem dX12_readStatement_168 : decode cX12_readStatement 168 = .ok (.bipush 59, 2) := by decide +kernel
theorem dX12_readStatement_170 : decode cX12_readStatement 170 = .ok (.if_icmp .eq 7, 3) := by decide +kernel
theorem dX12_readStatement_173 : decode cX12_readStatement 173 = .ok (.iconst 1, 1) := by decide +kernel
theorem dX12_readStatement_174 : decode cX12_readStatement 174 = .ok (.goto 4, 3) := by decide +kernel
theorem dX12_readStatement_177 : decode cX12_readStatement 177 = .ok (.iconst 0, 1) := by decide +kernel
theorem dX12_readStatement_178 : decode cX12_readStatement 178 = .ok (.putfield 124, 3) := by decide +kernel
theorem dX12_readStatement_181 : decode cX12_readStatement 181 = .ok (.aload_n 0, 1) := by decide +kernel
theorem dX12_readStatement_182 : decode cX12_readStatement 182 = .ok (.dup, 1) := by decide +kernel
theorem dX12_readStatement_183 : decode cX12_readStatement 183 = .ok (.getfield 115, 3) := by decide +kernel
theorem dX12_readStatement_186 : decode cX12_readStatement 186 = .ok (.aload_n 0, 1) := by decide +kernel
theorem dX12_readStatement_187 : decode cX12_readStatement 187 = .ok (.getfield 124, 3) := by decide +kernel
theorem dX12_readStatement_190 : decode cX12_readStatement 190 = .ok (.ifCond .eq 7, 3) := by decide +kernel
theorem dX12_readStatement_193 : decode cX12_readStatement 193 = .ok (.iconst 0, 1) := by decide +kernel
theorem dX12_readStatement_194 : decode cX12_readStatement 194 = .ok (.goto 4, 3) := by decide +kernel
theorem dX12_readStatement_197 : decode cX12_readStatement 197 = .ok (.iconst 1, 1) := by decide +kernel
theorem dX12_readStatement_198 : decode cX12_readStatement 198 = .ok (.iadd, 1) := by decide +kernel
theorem dX12_readStatement_199 : decode cX12_readStatement 199 = .ok (.putfield 115, 3) := by decide +kernel
theorem dX12_readStatement_202 : decode cX12_readStatement 202 = .ok (.aload_n 0, 1) := by decide +kernel
theorem dX12_readStatement_203 : decode cX12_readStatement 203 = .ok (.dup, 1) := by decide +kernel
theorem dX12_readStatement_204 : decode cX12_readStatement 204 = .ok (.getfield 134, 3) := by decide +kernel
theorem dX12_readStatement_207 : decode cX12_readStatement 207 = .ok (.iconst 1, 1) := by decide +kernel
theorem dX12_readStatement_208 : decode cX12_readStatement 208 = .ok (.iadd, 1) := by decide +kernel
theorem dX12_readStatement_209 : decode cX12_readStatement 209 = .ok (.putfield 134, 3) := by decide +kernel
theorem dX12_readStatement_212 : decode cX12_readStatement 212 = .ok (.return_, 1) := by decide +kernel
set_option maxRecDepth 20000 in
theorem ggX12_comes_X12_freezes : GoodIn wsX12_comes wsX12_freezes := goodIn_r _ [8, 9, 10, 11, 12, 3, 13, 14, 15, 7, 16, 36, 37, 38, 39, 40, 41, 42, 43, 44, 45, 46, 47, 48, 49, 50, 51, 52, 53, 54, 55, 56, 57, 58, 59, 60, 61, 62, 63, 64] (by decide +kernel) (by decide +kernel)
set_option maxRecDepth 20000 in
theorem gX12_comes_X12_freezes : GoodIn wsX12_comes (wsV RX12 140 RX12 yX12_freezes wsX12_freezes) := goodIn_app (goodIn_of _ (by decide +kernel)) ggX12_comes_X12_freezes
set_option maxRecDepth 20000 in
theorem ggX12_comes_X12_warmDay : GoodIn wsX12_comes wsX12_warmDay := goodIn_r _ [20, 9, 13, 10, 11, 21, 22, 7, 23, 36, 37, 38, 39, 40, 41, 42, 43, 44, 45, 46, 47, 48, 49, 50, 51, 52, 53, 54, 55, 56, 57, 58, 59, 60, 61, 62, 63, 64] (by decide +kernel) (by decide +kernel)
set_option maxRecDepth 20000 in
theorem gX12_comes_X12_warmDay : GoodIn wsX12_comes (wsV RX12 144 RX12 yX12_warmDay wsX12_warmDay) := goodIn_app (goodIn_of _ (by decide +kernel)) ggX12_comes_X12_warmDay
set_option maxRecDepth 20000 in
theorem ggX12_comes_X12_cuts : GoodIn wsX12_comes wsX12_cuts := goodIn_r _ [27, 9, 13, 36, 37, 38, 39, 40, 41, 42, 43, 44, 45, 46, 47, 48, 49, 50, 51, 52, 53, 54, 55, 56, 57, 58, 59, 60, 61, 62, 63, 64] (by decide +kernel) (by decide +kernel)
set_option maxRecDepth 20000 in
theorem gX12_comes_X12_cuts : GoodIn wsX12_comes (wsV RX12 147 RX12 yX12_cuts wsX12_cuts) := goodIn_app (goodIn_of _ (by decide +kernel)) ggX12_comes_X12_cuts
set_option maxRecDepth 20000 in
theorem ggX12_comes_X12_drifts : GoodIn wsX12_comes wsX12_drifts := goodIn_r _ [31, 9, 10, 11, 12, 13, 32, 33, 34, 7, 35, 36, 37, 38, 39, 40, 41, 42, 43, 44, 45, 46, 47, 48, 49, 50, 51, 52, 53, 54, 55, 56, 57, 58, 59, 60, 61, 62, 63, 64] (by decide +kernel) (by decide +kernel)
set_option maxRecDepth 20000 in
theorem gX12_comes_X12_drifts : GoodIn wsX12_comes (wsV RX12 150 RX12 yX12_drifts wsX12_drifts) := goodIn_app (goodIn_of _ (by decide +kernel)) ggX12_comes_X12_drifts
theorem dX12_comes_0 : decode cX12_comes 0 = .ok (.aload_n 0, 1) := by decide +kernel
theorem dX12_comes_1 : decode cX12_comes 1 = .ok (.getfield 37, 3) := by decide +kernel
theorem dX12_comes_4 : decode cX12_comes 4 = .ok (.iconst 4, 1) := by decide +kernel
theorem dX12_comes_5 : decode cX12_comes 5 = .ok (.iload_n 1, 1) := by decide +kernel
theorem dX12_comes_6 : decode cX12_comes 6 = .ok (.imul, 1) := by decide +kernel
theorem dX12_comes_7 : decode cX12_comes 7 = .ok (.iaload, 1) := by decide +kernel
theorem dX12_comes_8 : decode cX12_comes 8 = .ok (.istore_n 2, 1) := by decide +kernel
theorem dX12_comes_9 : decode cX12_comes 9 = .ok (.aload_n 0, 1) := by decide +kernel
theorem dX12_comes_10 : decode cX12_comes 10 = .ok (.getfield 37, 3) := by decide +kernel
theorem dX12_comes_13 : decode cX12_comes 13 = .ok (.iconst 4, 1) := by decide +kernel
theorem dX12_comes_14 : decode cX12_comes 14 = .ok (.iload_n 1, 1) := by decide +kernel
theorem dX12_comes_15 : decode cX12_comes 15 = .ok (.imul, 1) := by decide +kernel
theorem dX12_comes_16 : decode cX12_comes 16 = .ok (.iconst 1, 1) := by decide +kernel
theorem dX12_comes_17 : decode cX12_comes 17 = .ok (.iadd, 1) := by decide +kernel
theorem dX12_comes_18 : decode cX12_comes 18 = .ok (.iaload, 1) := by decide +kernel
theorem dX12_comes_19 : decode cX12_comes 19 = .ok (.istore_n 3, 1) := by decide +kernel
theorem dX12_comes_20 : decode cX12_comes 20 = .ok (.aload_n 0, 1) := by decide +kernel
theorem dX12_comes_21 : decode cX12_comes 21 = .ok (.getfield 37, 3) := by decide +kernel
theorem dX12_comes_24 : decode cX12_comes 24 = .ok (.iconst 4, 1) := by decide +kernel
theorem dX12_comes_25 : decode cX12_comes 25 = .ok (.iload_n 1, 1) := by decide +kernel
theorem dX12_comes_26 : decode cX12_comes 26 = .ok (.imul, 1) := by decide +kernel
theorem dX12_comes_27 : decode cX12_comes 27 = .ok (.iconst 2, 1) := by decide +kernel
theorem dX12_comes_28 : decode cX12_comes 28 = .ok (.iadd, 1) := by decide +kernel
theorem dX12_comes_29 : decode cX12_comes 29 = .ok (.iaload, 1) := by decide +kernel
theorem dX12_comes_30 : decode cX12_comes 30 = .ok (.istore 4, 2) := by decide +kernel
theorem dX12_comes_32 : decode cX12_comes 32 = .ok (.bipush 10, 2) := by decide +kernel
theorem dX12_comes_34 : decode cX12_comes 34 = .ok (.iload_n 3, 1) := by decide +kernel
theorem dX12_comes_35 : decode cX12_comes 35 = .ok (.imul, 1) := by decide +kernel
theorem dX12_comes_36 : decode cX12_comes 36 = .ok (.iload 4, 2) := by decide +kernel
theorem dX12_comes_38 : decode cX12_comes 38 = .ok (.iadd, 1) := by decide +kernel
theorem dX12_comes_39 : decode cX12_comes 39 = .ok (.istore 5, 2) := by decide +kernel
theorem dX12_comes_41 : decode cX12_comes 41 = .ok (.aload_n 0, 1) := by decide +kernel
theorem dX12_comes_42 : decode cX12_comes 42 = .ok (.getfield 34, 3) := by decide +kernel
theorem dX12_comes_45 : decode cX12_comes 45 = .ok (.iload_n 1, 1) := by decide +kernel
theorem dX12_comes_46 : decode cX12_comes 46 = .ok (.iaload, 1) := by decide +kernel
theorem dX12_comes_47 : decode cX12_comes 47 = .ok (.lookupswitch 165 #[(99, 123), (100, 159), (110, 41), (116, 93)], 41) := by decide +kernel
theorem dX12_comes_88 : decode cX12_comes 88 = .ok (.iload_n 2, 1) := by decide +kernel
theorem dX12_comes_89 : decode cX12_comes 89 = .ok (.bipush 6, 2) := by decide +kernel
theorem dX12_comes_91 : decode cX12_comes 91 = .ok (.if_icmp .ge 47, 3) := by decide +kernel
theorem dX12_comes_94 : decode cX12_comes 94 = .ok (.iload_n 3, 1) := by decide +kernel
theorem dX12_comes_95 : decode cX12_comes 95 = .ok (.bipush 8, 2) := by decide +kernel
theorem dX12_comes_97 : decode cX12_comes 97 = .ok (.if_icmp .ge 41, 3) := by decide +kernel
theorem dX12_comes_100 : decode cX12_comes 100 = .ok (.aload_n 0, 1) := by decide +kernel
theorem dX12_comes_101 : decode cX12_comes 101 = .ok (.getfield 37, 3) := by decide +kernel
theorem dX12_comes_104 : decode cX12_comes 104 = .ok (.iconst 4, 1) := by decide +kernel
theorem dX12_comes_105 : decode cX12_comes 105 = .ok (.iload_n 1, 1) := by decide +kernel
theorem dX12_comes_106 : decode cX12_comes 106 = .ok (.imul, 1) := by decide +kernel
theorem dX12_comes_107 : decode cX12_comes 107 = .ok (.iconst 3, 1) := by decide +kernel
theorem dX12_comes_108 : decode cX12_comes 108 = .ok (.iadd, 1) := by decide +kernel
theorem dX12_comes_109 : decode cX12_comes 109 = .ok (.iaload, 1) := by decide +kernel
theorem dX12_comes_110 : decode cX12_comes 110 = .ok (.ifCond .le 28, 3) := by decide +kernel
theorem dX12_comes_113 : decode cX12_comes 113 = .ok (.aload_n 0, 1) := by decide +kernel
theorem dX12_comes_114 : decode cX12_comes 114 = .ok (.iload_n 2, 1) := by decide +kernel
theorem dX12_comes_115 : decode cX12_comes 115 = .ok (.iload_n 3, 1) := by decide +kernel
theorem dX12_comes_116 : decode cX12_comes 116 = .ok (.iload 4, 2) := by decide +kernel
theorem dX12_comes_118 : decode cX12_comes 118 = .ok (.aload_n 0, 1) := by decide +kernel
theorem dX12_comes_119 : decode cX12_comes 119 = .ok (.getfield 37, 3) := by decide +kernel
theorem dX12_comes_122 : decode cX12_comes 122 = .ok (.iconst 4, 1) := by decide +kernel
theorem dX12_comes_123 : decode cX12_comes 123 = .ok (.iload_n 1, 1) := by decide +kernel
theorem dX12_comes_124 : decode cX12_comes 124 = .ok (.imul, 1) := by decide +kernel
theorem dX12_comes_125 : decode cX12_comes 125 = .ok (.iconst 3, 1) := by decide +kernel
theorem dX12_comes_126 : decode cX12_comes 126 = .ok (.iadd, 1) := by decide +kernel
theorem dX12_comes_127 : decode cX12_comes 127 = .ok (.iaload, 1) := by decide +kernel
theorem dX12_comes_128 : decode cX12_comes 128 = .ok (.invokevirtual 140, 3) := by decide +kernel
theorem dX12_comes_131 : decode cX12_comes 131 = .ok (.ifCond .eq 7, 3) := by decide +kernel
theorem dX12_comes_134 : decode cX12_comes 134 = .ok (.iconst 1, 1) := by decide +kernel
theorem dX12_comes_135 : decode cX12_comes 135 = .ok (.goto 4, 3) := by decide +kernel
theorem dX12_comes_138 : decode cX12_comes 138 = .ok (.iconst 0, 1) := by decide +kernel
theorem dX12_comes_139 : decode cX12_comes 139 = .ok (.ireturn, 1) := by decide +kernel
theorem dX12_comes_140 : decode cX12_comes 140 = .ok (.iconst 0, 1) := by decide +kernel
theorem dX12_comes_141 : decode cX12_comes 141 = .ok (.istore 6, 2) := by decide +kernel
theorem dX12_comes_143 : decode cX12_comes 143 = .ok (.iload 6, 2) := by decide +kernel
theorem dX12_comes_145 : decode cX12_comes 145 = .ok (.iload_n 2, 1) := by decide +kernel
theorem dX12_comes_146 : decode cX12_comes 146 = .ok (.if_icmp .ge 14, 3) := by decide +kernel
theorem dX12_comes_149 : decode cX12_comes 149 = .ok (.aload_n 0, 1) := by decide +kernel
theorem dX12_comes_150 : decode cX12_comes 150 = .ok (.invokevirtual 144, 3) := by decide +kernel
theorem dX12_comes_153 : decode cX12_comes 153 = .ok (.pop, 1) := by decide +kernel
theorem dX12_comes_154 : decode cX12_comes 154 = .ok (.iinc 6 1, 3) := by decide +kernel
theorem dX12_comes_157 : decode cX12_comes 157 = .ok (.goto (-14), 3) := by decide +kernel
theorem dX12_comes_160 : decode cX12_comes 160 = .ok (.iload_n 2, 1) := by decide +kernel
theorem dX12_comes_161 : decode cX12_comes 161 = .ok (.ifCond .le 7, 3) := by decide +kernel
theorem dX12_comes_164 : decode cX12_comes 164 = .ok (.iconst 1, 1) := by decide +kernel
theorem dX12_comes_165 : decode cX12_comes 165 = .ok (.goto 4, 3) := by decide +kernel
theorem dX12_comes_168 : decode cX12_comes 168 = .ok (.iconst 0, 1) := by decide +kernel
theorem dX12_comes_169 : decode cX12_comes 169 = .ok (.ireturn, 1) := by decide +kernel
theorem dX12_comes_170 : decode cX12_comes 170 = .ok (.iload_n 2, 1) := by decide +kernel
theorem dX12_comes_171 : decode cX12_comes 171 = .ok (.bipush 6, 2) := by decide +kernel
theorem dX12_comes_173 : decode cX12_comes 173 = .ok (.if_icmp .ge 16, 3) := by decide +kernel
theorem dX12_comes_176 : decode cX12_comes 176 = .ok (.iload 5, 2) := by decide +kernel
theorem dX12_comes_178 : decode cX12_comes 178 = .ok (.ifCond .le 11, 3) := by decide +kernel
theorem dX12_comes_181 : decode cX12_comes 181 = .ok (.aload_n 0, 1) := by decide +kernel
theorem dX12_comes_182 : decode cX12_comes 182 = .ok (.iload_n 2, 1) := by decide +kernel
theorem dX12_comes_183 : decode cX12_comes 183 = .ok (.iload 5, 2) := by decide +kernel
theorem dX12_comes_185 : decode cX12_comes 185 = .ok (.invokevirtual 147, 3) := by decide +kernel
theorem dX12_comes_188 : decode cX12_comes 188 = .ok (.pop, 1) := by decide +kernel
theorem dX12_comes_189 : decode cX12_comes 189 = .ok (.iload_n 2, 1) := by decide +kernel
theorem dX12_comes_190 : decode cX12_comes 190 = .ok (.bipush 6, 2) := by decide +kernel
theorem dX12_comes_192 : decode cX12_comes 192 = .ok (.if_icmp .ge 12, 3) := by decide +kernel
theorem dX12_comes_195 : decode cX12_comes 195 = .ok (.iload 5, 2) := by decide +kernel
theorem dX12_comes_197 : decode cX12_comes 197 = .ok (.ifCond .le 7, 3) := by decide +kernel
theorem dX12_comes_200 : decode cX12_comes 200 = .ok (.iconst 1, 1) := by decide +kernel
theorem dX12_comes_201 : decode cX12_comes 201 = .ok (.goto 4, 3) := by decide +kernel
theorem dX12_comes_204 : decode cX12_comes 204 = .ok (.iconst 0, 1) := by decide +kernel
theorem dX12_comes_205 : decode cX12_comes 205 = .ok (.ireturn, 1) := by decide +kernel
theorem dX12_comes_206 : decode cX12_comes 206 = .ok (.aload_n 0, 1) := by decide +kernel
theorem dX12_comes_207 : decode cX12_comes 207 = .ok (.invokevirtual 150, 3) := by decide +kernel
theorem dX12_comes_210 : decode cX12_comes 210 = .ok (.iconst 1, 1) := by decide +kernel
theorem dX12_comes_211 : decode cX12_comes 211 = .ok (.ireturn, 1) := by decide +kernel
theorem dX12_comes_212 : decode cX12_comes 212 = .ok (.aload_n 0, 1) := by decide +kernel
theorem dX12_comes_213 : decode cX12_comes 213 = .ok (.dup, 1) := by decide +kernel
theorem dX12_comes_214 : decode cX12_comes 214 = .ok (.getfield 72, 3) := by decide +kernel
theorem dX12_comes_217 : decode cX12_comes 217 = .ok (.iconst 1, 1) := by decide +kernel
theorem dX12_comes_218 : decode cX12_comes 218 = .ok (.iadd, 1) := by decide +kernel
theorem dX12_comes_219 : decode cX12_comes 219 = .ok (.putfield 72, 3) := by decide +kernel
theorem dX12_comes_222 : decode cX12_comes 222 = .ok (.aload_n 0, 1) := by decide +kernel
theorem dX12_comes_223 : decode cX12_comes 223 = .ok (.getfield 72, 3) := by decide +kernel
theorem dX12_comes_226 : decode cX12_comes 226 = .ok (.bipush 100, 2) := by decide +kernel
theorem dX12_comes_228 : decode cX12_comes 228 = .ok (.if_icmp .ge 7, 3) := by decide +kernel
theorem dX12_comes_231 : decode cX12_comes 231 = .ok (.iconst 1, 1) := by decide +kernel
theorem dX12_comes_232 : decode cX12_comes 232 = .ok (.goto 4, 3) := by decide +kernel
theorem dX12_comes_235 : decode cX12_comes 235 = .ok (.iconst 0, 1) := by decide +kernel
theorem dX12_comes_236 : decode cX12_comes 236 = .ok (.ireturn, 1) := by decide +kernel
set_option maxRecDepth 20000 in
theorem ggX12_lake_X12_wrongSort : GoodIn wsX12_lake wsX12_wrongSort := goodIn_r _ [13, 14, 15, 16, 17, 12, 18, 19, 20, 21, 22, 23, 97, 98, 99, 100, 101, 102, 103, 104, 105, 106, 107, 108, 109, 110, 111, 112, 113, 114, 115, 116, 117, 118, 119, 120, 121, 122, 123, 124, 125] (by decide +kernel) (by decide +kernel)
set_option maxRecDepth 20000 in
theorem gX12_lake_X12_wrongSort : GoodIn wsX12_lake (wsV RX12 153 RX12 yX12_wrongSort wsX12_wrongSort) := goodIn_app (goodIn_of _ (by decide +kernel)) ggX12_lake_X12_wrongSort
set_option maxRecDepth 20000 in
theorem ggX12_lake_X12_readStatement : GoodIn wsX12_lake wsX12_readStatement := goodIn_r _ [27, 7, 8, 5, 28, 6, 29, 30, 31, 32, 12, 33, 4, 34, 2, 35, 36, 37, 38, 39, 40, 21, 22, 23, 97, 98, 99, 100, 101, 102, 103, 104, 105, 106, 107, 108, 109, 110, 111, 112, 113, 114, 115, 116, 117, 118, 119, 120, 121, 122, 123, 124, 125] (by decide +kernel) (by decide +kernel)
set_option maxRecDepth 20000 in
theorem gX12_lake_X12_readStatement : GoodIn wsX12_lake (wsV RX12 156 RX12 yX12_readStatement wsX12_readStatement) := goodIn_app (goodIn_of _ (by decide +kernel)) ggX12_lake_X12_readStatement
set_option maxRecDepth 20000 in
theorem ggX12_lake_X12_open : GoodIn wsX12_lake wsX12_open := goodIn_r _ [44, 45, 46, 47, 48, 12, 49, 50, 51, 52, 53, 54, 55, 56, 57, 58, 59, 60, 61, 62, 97, 98, 99, 100, 101, 102, 103, 104, 105, 106, 107, 108, 109, 110, 111, 112, 113, 114, 115, 116, 117, 118, 119, 120, 121, 122, 123, 124, 125] (by decide +kernel) (by decide +kernel)
set_option maxRecDepth 20000 in
theorem gX12_lake_X12_open : GoodIn wsX12_lake (wsV RX12 159 RX12 yX12_open wsX12_open) := goodIn_app (goodIn_of _ (by decide +kernel)) ggX12_lake_X12_open
set_option maxRecDepth 20000 in
theorem ggX12_lake_X12_comes : GoodIn wsX12_lake wsX12_comes := goodIn_r _ [66, 29, 28, 53, 67, 68, 69, 12, 70, 54, 55, 56, 57, 58, 71, 72, 73, 74, 75, 76, 77, 78, 79, 80, 81, 82, 83, 84, 85, 86, 87, 88, 89, 90, 91, 92, 97, 98, 99, 100, 101, 102, 103, 104, 105, 106, 107, 108, 109, 110, 111, 112, 113, 114, 115, 116, 117, 118, 119, 120, 121, 122, 123, 124, 125] (by decide +kernel) (by decide +kernel)
set_option maxRecDepth 20000 in
theorem gX12_lake_X12_comes : GoodIn wsX12_lake (wsV RX12 162 RX12 yX12_comes wsX12_comes) := goodIn_app (goodIn_of _ (by decide +kernel)) ggX12_lake_X12_comes
set_option maxRecDepth 20000 in
theorem ggX12_lake_X12_close : GoodIn wsX12_lake wsX12_close := goodIn_r _ [96, 45, 46, 47, 48, 12, 49, 50, 51, 52, 53, 54, 55, 56, 57, 58, 59, 60, 61, 62, 97, 98, 99, 100, 101, 102, 103, 104, 105, 106, 107, 108, 109, 110, 111, 112, 113, 114, 115, 116, 117, 118, 119, 120, 121, 122, 123, 124, 125] (by decide +kernel) (by decide +kernel)
set_option maxRecDepth 20000 in
theorem gX12_lake_X12_close : GoodIn wsX12_lake (wsV RX12 166 RX12 yX12_close wsX12_close) := goodIn_app (goodIn_of _ (by decide +kernel)) ggX12_lake_X12_close
theorem dX12_lake_0 : decode cX12_lake 0 = .ok (.aload_n 0, 1) := by decide +kernel
theorem dX12_lake_1 : decode cX12_lake 1 = .ok (.iconst 0, 1) := by decide +kernel
theorem dX12_lake_2 : decode cX12_lake 2 = .ok (.putfield 62, 3) := by decide +kernel
theorem dX12_lake_5 : decode cX12_lake 5 = .ok (.aload_n 0, 1) := by decide +kernel
theorem dX12_lake_6 : decode cX12_lake 6 = .ok (.iload_n 1, 1) := by decide +kernel
theorem dX12_lake_7 : decode cX12_lake 7 = .ok (.iconst 0, 1) := by decide +kernel
theorem dX12_lake_8 : decode cX12_lake 8 = .ok (.invokevirtual 153, 3) := by decide +kernel
theorem dX12_lake_11 : decode cX12_lake 11 = .ok (.istore_n 2, 1) := by decide +kernel
theorem dX12_lake_12 : decode cX12_lake 12 = .ok (.iload_n 2, 1) := by decide +kernel
theorem dX12_lake_13 : decode cX12_lake 13 = .ok (.ifCond .ge 5, 3) := by decide +kernel
theorem dX12_lake_16 : decode cX12_lake 16 = .ok (.iload_n 2, 1) := by decide +kernel
theorem dX12_lake_17 : decode cX12_lake 17 = .ok (.ireturn, 1) := by decide +kernel
theorem dX12_lake_18 : decode cX12_lake 18 = .ok (.aload_n 0, 1) := by decide +kernel
theorem dX12_lake_19 : decode cX12_lake 19 = .ok (.bipush 100, 2) := by decide +kernel
theorem dX12_lake_21 : decode cX12_lake 21 = .ok (.iload_n 1, 1) := by decide +kernel
theorem dX12_lake_22 : decode cX12_lake 22 = .ok (.imul, 1) := by decide +kernel
theorem dX12_lake_23 : decode cX12_lake 23 = .ok (.putfield 121, 3) := by decide +kernel
theorem dX12_lake_26 : decode cX12_lake 26 = .ok (.aload_n 0, 1) := by decide +kernel
theorem dX12_lake_27 : decode cX12_lake 27 = .ok (.aload_n 0, 1) := by decide +kernel
theorem dX12_lake_28 : decode cX12_lake 28 = .ok (.getfield 52, 3) := by decide +kernel
theorem dX12_lake_31 : decode cX12_lake 31 = .ok (.iload_n 1, 1) := by decide +kernel
theorem dX12_lake_32 : decode cX12_lake 32 = .ok (.iaload, 1) := by decide +kernel
theorem dX12_lake_33 : decode cX12_lake 33 = .ok (.putfield 118, 3) := by decide +kernel
theorem dX12_lake_36 : decode cX12_lake 36 = .ok (.aload_n 0, 1) := by decide +kernel
theorem dX12_lake_37 : decode cX12_lake 37 = .ok (.iconst 0, 1) := by decide +kernel
theorem dX12_lake_38 : decode cX12_lake 38 = .ok (.putfield 115, 3) := by decide +kernel
theorem dX12_lake_41 : decode cX12_lake 41 = .ok (.aload_n 0, 1) := by decide +kernel
theorem dX12_lake_42 : decode cX12_lake 42 = .ok (.iconst 0, 1) := by decide +kernel
theorem dX12_lake_43 : decode cX12_lake 43 = .ok (.putfield 124, 3) := by decide +kernel
theorem dX12_lake_46 : decode cX12_lake 46 = .ok (.aload_n 0, 1) := by decide +kernel
theorem dX12_lake_47 : decode cX12_lake 47 = .ok (.iconst 0, 1) := by decide +kernel
theorem dX12_lake_48 : decode cX12_lake 48 = .ok (.putfield 134, 3) := by decide +kernel
theorem dX12_lake_51 : decode cX12_lake 51 = .ok (.aload_n 0, 1) := by decide +kernel
theorem dX12_lake_52 : decode cX12_lake 52 = .ok (.getfield 124, 3) := by decide +kernel
theorem dX12_lake_55 : decode cX12_lake 55 = .ok (.ifCond .ne 28, 3) := by decide +kernel
theorem dX12_lake_58 : decode cX12_lake 58 = .ok (.aload_n 0, 1) := by decide +kernel
theorem dX12_lake_59 : decode cX12_lake 59 = .ok (.getfield 134, 3) := by decide +kernel
theorem dX12_lake_62 : decode cX12_lake 62 = .ok (.ifCond .eq 14, 3) := by decide +kernel
theorem dX12_lake_65 : decode cX12_lake 65 = .ok (.aload_n 0, 1) := by decide +kernel
theorem dX12_lake_66 : decode cX12_lake 66 = .ok (.getfield 115, 3) := by decide +kernel
theorem dX12_lake_69 : decode cX12_lake 69 = .ok (.aload_n 0, 1) := by decide +kernel
theorem dX12_lake_70 : decode cX12_lake 70 = .ok (.getfield 118, 3) := by decide +kernel
theorem dX12_lake_73 : decode cX12_lake 73 = .ok (.if_icmp .ge 10, 3) := by decide +kernel
theorem dX12_lake_76 : decode cX12_lake 76 = .ok (.aload_n 0, 1) := by decide +kernel
theorem dX12_lake_77 : decode cX12_lake 77 = .ok (.invokevirtual 156, 3) := by decide +kernel
theorem dX12_lake_80 : decode cX12_lake 80 = .ok (.goto (-29), 3) := by decide +kernel
theorem dX12_lake_83 : decode cX12_lake 83 = .ok (.aload_n 0, 1) := by decide +kernel
theorem dX12_lake_84 : decode cX12_lake 84 = .ok (.getfield 124, 3) := by decide +kernel
theorem dX12_lake_87 : decode cX12_lake 87 = .ok (.ifCond .eq 12, 3) := by decide +kernel
theorem dX12_lake_90 : decode cX12_lake 90 = .ok (.sipush (-1000), 3) := by decide +kernel
theorem dX12_lake_93 : decode cX12_lake 93 = .ok (.aload_n 0, 1) := by decide +kernel
theorem dX12_lake_94 : decode cX12_lake 94 = .ok (.getfield 115, 3) := by decide +kernel
theorem dX12_lake_97 : decode cX12_lake 97 = .ok (.isub, 1) := by decide +kernel
theorem dX12_lake_98 : decode cX12_lake 98 = .ok (.ireturn, 1) := by decide +kernel
theorem dX12_lake_99 : decode cX12_lake 99 = .ok (.aload_n 0, 1) := by decide +kernel
theorem dX12_lake_100 : decode cX12_lake 100 = .ok (.invokevirtual 159, 3) := by decide +kernel
theorem dX12_lake_103 : decode cX12_lake 103 = .ok (.iconst 0, 1) := by decide +kernel
theorem dX12_lake_104 : decode cX12_lake 104 = .ok (.istore_n 3, 1) := by decide +kernel
theorem dX12_lake_105 : decode cX12_lake 105 = .ok (.iload_n 3, 1) := by decide +kernel
theorem dX12_lake_106 : decode cX12_lake 106 = .ok (.aload_n 0, 1) := by decide +kernel
theorem dX12_lake_107 : decode cX12_lake 107 = .ok (.getfield 134, 3) := by decide +kernel
theorem dX12_lake_110 : decode cX12_lake 110 = .ok (.if_icmp .ge 32, 3) := by decide +kernel
theorem dX12_lake_113 : decode cX12_lake 113 = .ok (.aload_n 0, 1) := by decide +kernel
theorem dX12_lake_114 : decode cX12_lake 114 = .ok (.iload_n 3, 1) := by decide +kernel
theorem dX12_lake_115 : decode cX12_lake 115 = .ok (.invokevirtual 162, 3) := by decide +kernel
theorem dX12_lake_118 : decode cX12_lake 118 = .ok (.ifCond .ne 18, 3) := by decide +kernel
theorem dX12_lake_121 : decode cX12_lake 121 = .ok (.aload_n 0, 1) := by decide +kernel
theorem dX12_lake_122 : decode cX12_lake 122 = .ok (.invokevirtual 166, 3) := by decide +kernel
theorem dX12_lake_125 : decode cX12_lake 125 = .ok (.sipush (-2000), 3) := by decide +kernel
theorem dX12_lake_128 : decode cX12_lake 128 = .ok (.aload_n 0, 1) := by decide +kernel
theorem dX12_lake_129 : decode cX12_lake 129 = .ok (.getfield 31, 3) := by decide +kernel
theorem dX12_lake_132 : decode cX12_lake 132 = .ok (.iload_n 3, 1) := by decide +kernel
theorem dX12_lake_133 : decode cX12_lake 133 = .ok (.iaload, 1) := by decide +kernel
theorem dX12_lake_134 : decode cX12_lake 134 = .ok (.isub, 1) := by decide +kernel
theorem dX12_lake_135 : decode cX12_lake 135 = .ok (.ireturn, 1) := by decide +kernel
theorem dX12_lake_136 : decode cX12_lake 136 = .ok (.iinc 3 1, 3) := by decide +kernel
theorem dX12_lake_139 : decode cX12_lake 139 = .ok (.goto (-34), 3) := by decide +kernel
theorem dX12_lake_142 : decode cX12_lake 142 = .ok (.aload_n 0, 1) := by decide +kernel
theorem dX12_lake_143 : decode cX12_lake 143 = .ok (.getfield 134, 3) := by decide +kernel
theorem dX12_lake_146 : decode cX12_lake 146 = .ok (.ireturn, 1) := by decide +kernel
set_option maxRecDepth 20000 in
theorem ggX12_wrongLayer_X12_in : GoodIn wsX12_wrongLayer wsX12_in := goodIn_r _ [6] (by decide +kernel) (by decide +kernel)
set_option maxRecDepth 20000 in
theorem gX12_wrongLayer_X12_in : GoodIn wsX12_wrongLayer (va_wsS RX12 68 yX12_in wsX12_in) := goodIn_app (goodIn_of _ (by decide +kernel)) ggX12_wrongLayer_X12_in
theorem dX12_wrongLayer_0 : decode cX12_wrongLayer 0 = .ok (.iload_n 1, 1) := by decide +kernel
theorem dX12_wrongLayer_1 : decode cX12_wrongLayer 1 = .ok (.i2l, 1) := by decide +kernel
theorem dX12_wrongLayer_2 : decode cX12_wrongLayer 2 = .ok (.lconst 0, 1) := by decide +kernel
theorem dX12_wrongLayer_3 : decode cX12_wrongLayer 3 = .ok (.ldc2_w 169, 3) := by decide +kernel
theorem dX12_wrongLayer_6 : decode cX12_wrongLayer 6 = .ok (.invokestatic 68, 3) := by decide +kernel
theorem dX12_wrongLayer_9 : decode cX12_wrongLayer 9 = .ok (.ifCond .ne 7, 3) := by decide +kernel
theorem dX12_wrongLayer_12 : decode cX12_wrongLayer 12 = .ok (.iconst (-1), 1) := by decide +kernel
theorem dX12_wrongLayer_13 : decode cX12_wrongLayer 13 = .ok (.goto 33, 3) := by decide +kernel
theorem dX12_wrongLayer_16 : decode cX12_wrongLayer 16 = .ok (.aload_n 0, 1) := by decide +kernel
theorem dX12_wrongLayer_17 : decode cX12_wrongLayer 17 = .ok (.getfield 40, 3) := by decide +kernel
theorem dX12_wrongLayer_20 : decode cX12_wrongLayer 20 = .ok (.iload_n 1, 1) := by decide +kernel
theorem dX12_wrongLayer_21 : decode cX12_wrongLayer 21 = .ok (.iaload, 1) := by decide +kernel
theorem dX12_wrongLayer_22 : decode cX12_wrongLayer 22 = .ok (.ifCond .ne 8, 3) := by decide +kernel
theorem dX12_wrongLayer_25 : decode cX12_wrongLayer 25 = .ok (.bipush (-11), 2) := by decide +kernel
theorem dX12_wrongLayer_27 : decode cX12_wrongLayer 27 = .ok (.goto 19, 3) := by decide +kernel
theorem dX12_wrongLayer_30 : decode cX12_wrongLayer 30 = .ok (.aload_n 0, 1) := by decide +kernel
theorem dX12_wrongLayer_31 : decode cX12_wrongLayer 31 = .ok (.getfield 40, 3) := by decide +kernel
theorem dX12_wrongLayer_34 : decode cX12_wrongLayer 34 = .ok (.iload_n 1, 1) := by decide +kernel
theorem dX12_wrongLayer_35 : decode cX12_wrongLayer 35 = .ok (.iaload, 1) := by decide +kernel
theorem dX12_wrongLayer_36 : decode cX12_wrongLayer 36 = .ok (.iconst 1, 1) := by decide +kernel
theorem dX12_wrongLayer_37 : decode cX12_wrongLayer 37 = .ok (.if_icmp .eq 8, 3) := by decide +kernel
theorem dX12_wrongLayer_40 : decode cX12_wrongLayer 40 = .ok (.bipush (-12), 2) := by decide +kernel
theorem dX12_wrongLayer_42 : decode cX12_wrongLayer 42 = .ok (.goto 4, 3) := by decide +kernel
theorem dX12_wrongLayer_45 : decode cX12_wrongLayer 45 = .ok (.iconst 0, 1) := by decide +kernel
theorem dX12_wrongLayer_46 : decode cX12_wrongLayer 46 = .ok (.ireturn, 1) := by decide +kernel
set_option maxRecDepth 20000 in
theorem ggX12_freeze_X12_isCell : GoodIn wsX12_freeze wsX12_isCell := goodIn_r _ [10, 11, 12, 13, 9, 14] (by decide +kernel) (by decide +kernel)
set_option maxRecDepth 20000 in
theorem gX12_freeze_X12_isCell : GoodIn wsX12_freeze (va_wsS RX12 171 yX12_isCell wsX12_isCell) := goodIn_app (goodIn_of _ (by decide +kernel)) ggX12_freeze_X12_isCell
set_option maxRecDepth 20000 in
theorem ggX12_freeze_X12_in : GoodIn wsX12_freeze wsX12_in := goodIn_r _ [14] (by decide +kernel) (by decide +kernel)
set_option maxRecDepth 20000 in
theorem gX12_freeze_X12_in : GoodIn wsX12_freeze (va_wsS RX12 68 yX12_in wsX12_in) := goodIn_app (goodIn_of _ (by decide +kernel)) ggX12_freeze_X12_in
set_option maxRecDepth 20000 in
theorem ggX12_freeze_X12_wrongLayer : GoodIn wsX12_freeze wsX12_wrongLayer := goodIn_r _ [18, 19, 20, 12, 13, 9, 14, 32, 33, 34, 35, 36, 37, 38, 39, 40, 41, 42, 43, 44, 45, 46, 47, 48, 49, 50, 51, 52, 53, 54, 55, 56, 57, 58, 59, 60] (by decide +kernel) (by decide +kernel)
set_option maxRecDepth 20000 in
theorem gX12_freeze_X12_wrongLayer : GoodIn wsX12_freeze (wsV RX12 176 RX12 yX12_wrongLayer wsX12_wrongLayer) := goodIn_app (goodIn_of _ (by decide +kernel)) ggX12_freeze_X12_wrongLayer
set_option maxRecDepth 20000 in
theorem ggX12_freeze_X12_freezes : GoodIn wsX12_freeze wsX12_freezes := goodIn_r _ [24, 6, 25, 26, 27, 28, 5, 29, 30, 9, 31, 32, 33, 34, 35, 36, 37, 38, 39, 40, 41, 42, 43, 44, 45, 46, 47, 48, 49, 50, 51, 52, 53, 54, 55, 56, 57, 58, 59, 60] (by decide +kernel) (by decide +kernel)
set_option maxRecDepth 20000 in
theorem gX12_freeze_X12_freezes : GoodIn wsX12_freeze (wsV RX12 140 RX12 yX12_freezes wsX12_freezes) := goodIn_app (goodIn_of _ (by decide +kernel)) ggX12_freeze_X12_freezes
theorem dX12_freeze_0 : decode cX12_freeze 0 = .ok (.aload_n 0, 1) := by decide +kernel
theorem dX12_freeze_1 : decode cX12_freeze 1 = .ok (.iconst 0, 1) := by decide +kernel
theorem dX12_freeze_2 : decode cX12_freeze 2 = .ok (.putfield 62, 3) := by decide +kernel
theorem dX12_freeze_5 : decode cX12_freeze 5 = .ok (.iload_n 2, 1) := by decide +kernel
theorem dX12_freeze_6 : decode cX12_freeze 6 = .ok (.invokestatic 171, 3) := by decide +kernel
theorem dX12_freeze_9 : decode cX12_freeze 9 = .ok (.ifCond .eq 23, 3) := by decide +kernel
theorem dX12_freeze_12 : decode cX12_freeze 12 = .ok (.iload_n 3, 1) := by decide +kernel
theorem dX12_freeze_13 : decode cX12_freeze 13 = .ok (.i2l, 1) := by decide +kernel
theorem dX12_freeze_14 : decode cX12_freeze 14 = .ok (.lconst 1, 1) := by decide +kernel
theorem dX12_freeze_15 : decode cX12_freeze 15 = .ok (.ldc2_w 174, 3) := by decide +kernel
theorem dX12_freeze_18 : decode cX12_freeze 18 = .ok (.invokestatic 68, 3) := by decide +kernel
theorem dX12_freeze_21 : decode cX12_freeze 21 = .ok (.ifCond .eq 11, 3) := by decide +kernel
theorem dX12_freeze_24 : decode cX12_freeze 24 = .ok (.aload_n 0, 1) := by decide +kernel
theorem dX12_freeze_25 : decode cX12_freeze 25 = .ok (.iload_n 1, 1) := by decide +kernel
theorem dX12_freeze_26 : decode cX12_freeze 26 = .ok (.invokevirtual 176, 3) := by decide +kernel
theorem dX12_freeze_29 : decode cX12_freeze 29 = .ok (.goto 4, 3) := by decide +kernel
theorem dX12_freeze_32 : decode cX12_freeze 32 = .ok (.iconst (-1), 1) := by decide +kernel
theorem dX12_freeze_33 : decode cX12_freeze 33 = .ok (.istore 4, 2) := by decide +kernel
theorem dX12_freeze_35 : decode cX12_freeze 35 = .ok (.iload 4, 2) := by decide +kernel
theorem dX12_freeze_37 : decode cX12_freeze 37 = .ok (.ifCond .ge 6, 3) := by decide +kernel
theorem dX12_freeze_40 : decode cX12_freeze 40 = .ok (.iload 4, 2) := by decide +kernel
theorem dX12_freeze_42 : decode cX12_freeze 42 = .ok (.ireturn, 1) := by decide +kernel
theorem dX12_freeze_43 : decode cX12_freeze 43 = .ok (.aload_n 0, 1) := by decide +kernel
theorem dX12_freeze_44 : decode cX12_freeze 44 = .ok (.iload_n 2, 1) := by decide +kernel
theorem dX12_freeze_45 : decode cX12_freeze 45 = .ok (.aload_n 0, 1) := by decide +kernel
theorem dX12_freeze_46 : decode cX12_freeze 46 = .ok (.getfield 43, 3) := by decide +kernel
theorem dX12_freeze_49 : decode cX12_freeze 49 = .ok (.iload_n 1, 1) := by decide +kernel
theorem dX12_freeze_50 : decode cX12_freeze 50 = .ok (.iaload, 1) := by decide +kernel
theorem dX12_freeze_51 : decode cX12_freeze 51 = .ok (.aload_n 0, 1) := by decide +kernel
theorem dX12_freeze_52 : decode cX12_freeze 52 = .ok (.getfield 46, 3) := by decide +kernel
theorem dX12_freeze_55 : decode cX12_freeze 55 = .ok (.iload_n 1, 1) := by decide +kernel
theorem dX12_freeze_56 : decode cX12_freeze 56 = .ok (.iaload, 1) := by decide +kernel
theorem dX12_freeze_57 : decode cX12_freeze 57 = .ok (.iload_n 3, 1) := by decide +kernel
theorem dX12_freeze_58 : decode cX12_freeze 58 = .ok (.invokevirtual 140, 3) := by decide +kernel
theorem dX12_freeze_61 : decode cX12_freeze 61 = .ok (.ifCond .eq 24, 3) := by decide +kernel
theorem dX12_freeze_64 : decode cX12_freeze 64 = .ok (.aload_n 0, 1) := by decide +kernel
theorem dX12_freeze_65 : decode cX12_freeze 65 = .ok (.getfield 22, 3) := by decide +kernel
theorem dX12_freeze_68 : decode cX12_freeze 68 = .ok (.bipush 8, 2) := by decide +kernel
theorem dX12_freeze_70 : decode cX12_freeze 70 = .ok (.iload_n 2, 1) := by decide +kernel
theorem dX12_freeze_71 : decode cX12_freeze 71 = .ok (.imul, 1) := by decide +kernel
theorem dX12_freeze_72 : decode cX12_freeze 72 = .ok (.aload_n 0, 1) := by decide +kernel
theorem dX12_freeze_73 : decode cX12_freeze 73 = .ok (.getfield 7, 3) := by decide +kernel
theorem dX12_freeze_76 : decode cX12_freeze 76 = .ok (.iload_n 2, 1) := by decide +kernel
theorem dX12_freeze_77 : decode cX12_freeze 77 = .ok (.iaload, 1) := by decide +kernel
theorem dX12_freeze_78 : decode cX12_freeze 78 = .ok (.iadd, 1) := by decide +kernel
theorem dX12_freeze_79 : decode cX12_freeze 79 = .ok (.iconst 1, 1) := by decide +kernel
theorem dX12_freeze_80 : decode cX12_freeze 80 = .ok (.isub, 1) := by decide +kernel
theorem dX12_freeze_81 : decode cX12_freeze 81 = .ok (.iaload, 1) := by decide +kernel
theorem dX12_freeze_82 : decode cX12_freeze 82 = .ok (.goto 5, 3) := by decide +kernel
theorem dX12_freeze_85 : decode cX12_freeze 85 = .ok (.bipush (-2), 2) := by decide +kernel
theorem dX12_freeze_87 : decode cX12_freeze 87 = .ok (.ireturn, 1) := by decide +kernel
set_option maxRecDepth 20000 in
theorem ggX12_thaw_X12_in : GoodIn wsX12_thaw wsX12_in := goodIn_r _ [6] (by decide +kernel) (by decide +kernel)
set_option maxRecDepth 20000 in
theorem gX12_thaw_X12_in : GoodIn wsX12_thaw (va_wsS RX12 68 yX12_in wsX12_in) := goodIn_app (goodIn_of _ (by decide +kernel)) ggX12_thaw_X12_in
set_option maxRecDepth 20000 in
theorem ggX12_thaw_X12_warmDay : GoodIn wsX12_thaw wsX12_warmDay := goodIn_r _ [10, 11, 12, 13, 14, 15, 16, 5, 17, 18, 19, 20, 21, 22, 23, 24, 25, 26, 27, 28, 29, 30, 31, 32, 33, 34, 35, 36, 37, 38, 39, 40, 41, 42, 43, 44, 45, 46] (by decide +kernel) (by decide +kernel)
set_option maxRecDepth 20000 in
theorem gX12_thaw_X12_warmDay : GoodIn wsX12_thaw (wsV RX12 144 RX12 yX12_warmDay wsX12_warmDay) := goodIn_app (goodIn_of _ (by decide +kernel)) ggX12_thaw_X12_warmDay
theorem dX12_thaw_0 : decode cX12_thaw 0 = .ok (.aload_n 0, 1) := by decide +kernel
theorem dX12_thaw_1 : decode cX12_thaw 1 = .ok (.iconst 0, 1) := by decide +kernel
theorem dX12_thaw_2 : decode cX12_thaw 2 = .ok (.putfield 62, 3) := by decide +kernel
theorem dX12_thaw_5 : decode cX12_thaw 5 = .ok (.iload_n 1, 1) := by decide +kernel
theorem dX12_thaw_6 : decode cX12_thaw 6 = .ok (.i2l, 1) := by decide +kernel
theorem dX12_thaw_7 : decode cX12_thaw 7 = .ok (.lconst 1, 1) := by decide +kernel
theorem dX12_thaw_8 : decode cX12_thaw 8 = .ok (.ldc2_w 179, 3) := by decide +kernel
theorem dX12_thaw_11 : decode cX12_thaw 11 = .ok (.invokestatic 68, 3) := by decide +kernel
theorem dX12_thaw_14 : decode cX12_thaw 14 = .ok (.ifCond .ne 5, 3) := by decide +kernel
theorem dX12_thaw_17 : decode cX12_thaw 17 = .ok (.iconst (-1), 1) := by decide +kernel
theorem dX12_thaw_18 : decode cX12_thaw 18 = .ok (.ireturn, 1) := by decide +kernel
theorem dX12_thaw_19 : decode cX12_thaw 19 = .ok (.iconst 0, 1) := by decide +kernel
theorem dX12_thaw_20 : decode cX12_thaw 20 = .ok (.istore_n 2, 1) := by decide +kernel
theorem dX12_thaw_21 : decode cX12_thaw 21 = .ok (.iconst 0, 1) := by decide +kernel
theorem dX12_thaw_22 : decode cX12_thaw 22 = .ok (.istore_n 3, 1) := by decide +kernel
theorem dX12_thaw_23 : decode cX12_thaw 23 = .ok (.iload_n 3, 1) := by decide +kernel
theorem dX12_thaw_24 : decode cX12_thaw 24 = .ok (.iload_n 1, 1) := by decide +kernel
theorem dX12_thaw_25 : decode cX12_thaw 25 = .ok (.if_icmp .ge 16, 3) := by decide +kernel
theorem dX12_thaw_28 : decode cX12_thaw 28 = .ok (.iload_n 2, 1) := by decide +kernel
theorem dX12_thaw_29 : decode cX12_thaw 29 = .ok (.aload_n 0, 1) := by decide +kernel
theorem dX12_thaw_30 : decode cX12_thaw 30 = .ok (.invokevirtual 144, 3) := by decide +kernel
theorem dX12_thaw_33 : decode cX12_thaw 33 = .ok (.iadd, 1) := by decide +kernel
theorem dX12_thaw_34 : decode cX12_thaw 34 = .ok (.istore_n 2, 1) := by decide +kernel
theorem dX12_thaw_35 : decode cX12_thaw 35 = .ok (.iinc 3 1, 3) := by decide +kernel
theorem dX12_thaw_38 : decode cX12_thaw 38 = .ok (.goto (-15), 3) := by decide +kernel
theorem dX12_thaw_41 : decode cX12_thaw 41 = .ok (.iload_n 2, 1) := by decide +kernel
theorem dX12_thaw_42 : decode cX12_thaw 42 = .ok (.ireturn, 1) := by decide +kernel
set_option maxRecDepth 20000 in
theorem ggX12_cut_X12_isCell : GoodIn wsX12_cut wsX12_isCell := goodIn_r _ [6, 7, 8, 9, 5, 10] (by decide +kernel) (by decide +kernel)
set_option maxRecDepth 20000 in
theorem gX12_cut_X12_isCell : GoodIn wsX12_cut (va_wsS RX12 171 yX12_isCell wsX12_isCell) := goodIn_app (goodIn_of _ (by decide +kernel)) ggX12_cut_X12_isCell
set_option maxRecDepth 20000 in
theorem ggX12_cut_X12_in : GoodIn wsX12_cut wsX12_in := goodIn_r _ [10] (by decide +kernel) (by decide +kernel)
set_option maxRecDepth 20000 in
theorem gX12_cut_X12_in : GoodIn wsX12_cut (va_wsS RX12 68 yX12_in wsX12_in) := goodIn_app (goodIn_of _ (by decide +kernel)) ggX12_cut_X12_in
set_option maxRecDepth 20000 in
theorem ggX12_cut_X12_cuts : GoodIn wsX12_cut wsX12_cuts := goodIn_r _ [14, 15, 16, 17, 18, 19, 20, 21, 22, 23, 24, 25, 26, 27, 28, 29, 30, 31, 32, 33, 34, 35, 36, 37, 38, 39, 40, 41, 42, 43, 44, 45] (by decide +kernel) (by decide +kernel)
set_option maxRecDepth 20000 in
theorem gX12_cut_X12_cuts : GoodIn wsX12_cut (wsV RX12 147 RX12 yX12_cuts wsX12_cuts) := goodIn_app (goodIn_of _ (by decide +kernel)) ggX12_cut_X12_cuts
theorem dX12_cut_0 : decode cX12_cut 0 = .ok (.aload_n 0, 1) := by decide +kernel
theorem dX12_cut_1 : decode cX12_cut 1 = .ok (.iconst 0, 1) := by decide +kernel
theorem dX12_cut_2 : decode cX12_cut 2 = .ok (.putfield 62, 3) := by decide +kernel
theorem dX12_cut_5 : decode cX12_cut 5 = .ok (.iload_n 1, 1) := by decide +kernel
theorem dX12_cut_6 : decode cX12_cut 6 = .ok (.invokestatic 171, 3) := by decide +kernel
theorem dX12_cut_9 : decode cX12_cut 9 = .ok (.ifCond .eq 24, 3) := by decide +kernel
theorem dX12_cut_12 : decode cX12_cut 12 = .ok (.iload_n 2, 1) := by decide +kernel
theorem dX12_cut_13 : decode cX12_cut 13 = .ok (.i2l, 1) := by decide +kernel
theorem dX12_cut_14 : decode cX12_cut 14 = .ok (.lconst 1, 1) := by decide +kernel
theorem dX12_cut_15 : decode cX12_cut 15 = .ok (.ldc2_w 179, 3) := by decide +kernel
theorem dX12_cut_18 : decode cX12_cut 18 = .ok (.invokestatic 68, 3) := by decide +kernel
theorem dX12_cut_21 : decode cX12_cut 21 = .ok (.ifCond .eq 12, 3) := by decide +kernel
theorem dX12_cut_24 : decode cX12_cut 24 = .ok (.aload_n 0, 1) := by decide +kernel
theorem dX12_cut_25 : decode cX12_cut 25 = .ok (.iload_n 1, 1) := by decide +kernel
theorem dX12_cut_26 : decode cX12_cut 26 = .ok (.iload_n 2, 1) := by decide +kernel
theorem dX12_cut_27 : decode cX12_cut 27 = .ok (.invokevirtual 147, 3) := by decide +kernel
theorem dX12_cut_30 : decode cX12_cut 30 = .ok (.goto 4, 3) := by decide +kernel
theorem dX12_cut_33 : decode cX12_cut 33 = .ok (.iconst (-1), 1) := by decide +kernel
theorem dX12_cut_34 : decode cX12_cut 34 = .ok (.ireturn, 1) := by decide +kernel
set_option maxRecDepth 20000 in
theorem ggX12_drift_X12_drifts : GoodIn wsX12_drift wsX12_drifts := goodIn_r _ [7, 2, 8, 9, 10, 11, 12, 13, 14, 6, 15, 16, 17, 18, 19, 20, 21, 22, 23, 24, 25, 26, 27, 28, 29, 30, 31, 32, 33, 34, 35, 36, 37, 38, 39, 40, 41, 42, 43, 44] (by decide +kernel) (by decide +kernel)
set_option maxRecDepth 20000 in
theorem gX12_drift_X12_drifts : GoodIn wsX12_drift (wsV RX12 150 RX12 yX12_drifts wsX12_drifts) := goodIn_app (goodIn_of _ (by decide +kernel)) ggX12_drift_X12_drifts
theorem dX12_drift_0 : decode cX12_drift 0 = .ok (.aload_n 0, 1) := by decide +kernel
theorem dX12_drift_1 : decode cX12_drift 1 = .ok (.iconst 0, 1) := by decide +kernel
theorem dX12_drift_2 : decode cX12_drift 2 = .ok (.putfield 62, 3) := by decide +kernel
theorem dX12_drift_5 : decode cX12_drift 5 = .ok (.aload_n 0, 1) := by decide +kernel
theorem dX12_drift_6 : decode cX12_drift 6 = .ok (.invokevirtual 150, 3) := by decide +kernel
theorem dX12_drift_9 : decode cX12_drift 9 = .ok (.aload_n 0, 1) := by decide +kernel
theorem dX12_drift_10 : decode cX12_drift 10 = .ok (.getfield 7, 3) := by decide +kernel
theorem dX12_drift_13 : decode cX12_drift 13 = .ok (.iconst 0, 1) := by decide +kernel
theorem dX12_drift_14 : decode cX12_drift 14 = .ok (.iaload, 1) := by decide +kernel
theorem dX12_drift_15 : decode cX12_drift 15 = .ok (.ireturn, 1) := by decide +kernel
theorem dX12_winter_0 : decode cX12_winter 0 = .ok (.aload_n 0, 1) := by decide +kernel
theorem dX12_winter_1 : decode cX12_winter 1 = .ok (.iconst 0, 1) := by decide +kernel
theorem dX12_winter_2 : decode cX12_winter 2 = .ok (.putfield 62, 3) := by decide +kernel
theorem dX12_winter_5 : decode cX12_winter 5 = .ok (.aload_n 0, 1) := by decide +kernel
theorem dX12_winter_6 : decode cX12_winter 6 = .ok (.getfield 72, 3) := by decide +kernel
theorem dX12_winter_9 : decode cX12_winter 9 = .ok (.bipush 99, 2) := by decide +kernel
theorem dX12_winter_11 : decode cX12_winter 11 = .ok (.if_icmp .ne 6, 3) := by decide +kernel
theorem dX12_winter_14 : decode cX12_winter 14 = .ok (.bipush (-2), 2) := by decide +kernel
theorem dX12_winter_16 : decode cX12_winter 16 = .ok (.ireturn, 1) := by decide +kernel
theorem dX12_winter_17 : decode cX12_winter 17 = .ok (.aload_n 0, 1) := by decide +kernel
theorem dX12_winter_18 : decode cX12_winter 18 = .ok (.dup, 1) := by decide +kernel
theorem dX12_winter_19 : decode cX12_winter 19 = .ok (.getfield 72, 3) := by decide +kernel
theorem dX12_winter_22 : decode cX12_winter 22 = .ok (.iconst 1, 1) := by decide +kernel
theorem dX12_winter_23 : decode cX12_winter 23 = .ok (.iadd, 1) := by decide +kernel
theorem dX12_winter_24 : decode cX12_winter 24 = .ok (.putfield 72, 3) := by decide +kernel
theorem dX12_winter_27 : decode cX12_winter 27 = .ok (.aload_n 0, 1) := by decide +kernel
theorem dX12_winter_28 : decode cX12_winter 28 = .ok (.getfield 72, 3) := by decide +kernel
theorem dX12_winter_31 : decode cX12_winter 31 = .ok (.ireturn, 1) := by decide +kernel
theorem dX12_depthOf_0 : decode cX12_depthOf 0 = .ok (.iconst 0, 1) := by decide +kernel
theorem dX12_depthOf_1 : decode cX12_depthOf 1 = .ok (.istore_n 3, 1) := by decide +kernel
theorem dX12_depthOf_2 : decode cX12_depthOf 2 = .ok (.iload_n 2, 1) := by decide +kernel
theorem dX12_depthOf_3 : decode cX12_depthOf 3 = .ok (.iconst 1, 1) := by decide +kernel
theorem dX12_depthOf_4 : decode cX12_depthOf 4 = .ok (.iadd, 1) := by decide +kernel
theorem dX12_depthOf_5 : decode cX12_depthOf 5 = .ok (.istore 4, 2) := by decide +kernel
theorem dX12_depthOf_7 : decode cX12_depthOf 7 = .ok (.iload 4, 2) := by decide +kernel
theorem dX12_depthOf_9 : decode cX12_depthOf 9 = .ok (.aload_n 0, 1) := by decide +kernel
theorem dX12_depthOf_10 : decode cX12_depthOf 10 = .ok (.getfield 7, 3) := by decide +kernel
theorem dX12_depthOf_13 : decode cX12_depthOf 13 = .ok (.iload_n 1, 1) := by decide +kernel
theorem dX12_depthOf_14 : decode cX12_depthOf 14 = .ok (.iaload, 1) := by decide +kernel
theorem dX12_depthOf_15 : decode cX12_depthOf 15 = .ok (.if_icmp .ge 24, 3) := by decide +kernel
theorem dX12_depthOf_18 : decode cX12_depthOf 18 = .ok (.iload_n 3, 1) := by decide +kernel
theorem dX12_depthOf_19 : decode cX12_depthOf 19 = .ok (.aload_n 0, 1) := by decide +kernel
theorem dX12_depthOf_20 : decode cX12_depthOf 20 = .ok (.getfield 22, 3) := by decide +kernel
theorem dX12_depthOf_23 : decode cX12_depthOf 23 = .ok (.bipush 8, 2) := by decide +kernel
theorem dX12_depthOf_25 : decode cX12_depthOf 25 = .ok (.iload_n 1, 1) := by decide +kernel
theorem dX12_depthOf_26 : decode cX12_depthOf 26 = .ok (.imul, 1) := by decide +kernel
theorem dX12_depthOf_27 : decode cX12_depthOf 27 = .ok (.iload 4, 2) := by decide +kernel
theorem dX12_depthOf_29 : decode cX12_depthOf 29 = .ok (.iadd, 1) := by decide +kernel
theorem dX12_depthOf_30 : decode cX12_depthOf 30 = .ok (.iaload, 1) := by decide +kernel
theorem dX12_depthOf_31 : decode cX12_depthOf 31 = .ok (.iadd, 1) := by decide +kernel
theorem dX12_depthOf_32 : decode cX12_depthOf 32 = .ok (.istore_n 3, 1) := by decide +kernel
theorem dX12_depthOf_33 : decode cX12_depthOf 33 = .ok (.iinc 4 1, 3) := by decide +kernel
theorem dX12_depthOf_36 : decode cX12_depthOf 36 = .ok (.goto (-29), 3) := by decide +kernel
theorem dX12_depthOf_39 : decode cX12_depthOf 39 = .ok (.iload_n 3, 1) := by decide +kernel
theorem dX12_depthOf_40 : decode cX12_depthOf 40 = .ok (.ireturn, 1) := by decide +kernel
set_option maxRecDepth 20000 in
theorem ggX12_isRead_X12_depthOf : GoodIn wsX12_isRead wsX12_depthOf := goodIn_r _ [7, 8, 9, 13, 14, 15, 16, 17, 18, 19, 20, 21, 22, 23, 24, 25, 26, 27, 28, 29, 30, 31, 32, 33, 34, 35, 36, 37, 38, 39, 40, 41] (by decide +kernel) (by decide +kernel)
set_option maxRecDepth 20000 in
theorem gX12_isRead_X12_depthOf : GoodIn wsX12_isRead (wsV RX12 181 RX12 yX12_depthOf wsX12_depthOf) := goodIn_app (goodIn_of _ (by decide +kernel)) ggX12_isRead_X12_depthOf
set_option maxRecDepth 20000 in
theorem ggX12_isRead_X12_lightOf : GoodIn wsX12_isRead wsX12_lightOf := goodIn_r _ [12] (by decide +kernel) (by decide +kernel)
set_option maxRecDepth 20000 in
theorem gX12_isRead_X12_lightOf : GoodIn wsX12_isRead (va_wsS RX12 184 yX12_lightOf wsX12_lightOf) := goodIn_app (goodIn_of _ (by decide +kernel)) ggX12_isRead_X12_lightOf
theorem dX12_isRead_0 : decode cX12_isRead 0 = .ok (.bipush 8, 2) := by decide +kernel
theorem dX12_isRead_2 : decode cX12_isRead 2 = .ok (.iload_n 1, 1) := by decide +kernel
theorem dX12_isRead_3 : decode cX12_isRead 3 = .ok (.imul, 1) := by decide +kernel
theorem dX12_isRead_4 : decode cX12_isRead 4 = .ok (.iload_n 2, 1) := by decide +kernel
theorem dX12_isRead_5 : decode cX12_isRead 5 = .ok (.iadd, 1) := by decide +kernel
theorem dX12_isRead_6 : decode cX12_isRead 6 = .ok (.istore_n 3, 1) := by decide +kernel
theorem dX12_isRead_7 : decode cX12_isRead 7 = .ok (.aload_n 0, 1) := by decide +kernel
theorem dX12_isRead_8 : decode cX12_isRead 8 = .ok (.iload_n 1, 1) := by decide +kernel
theorem dX12_isRead_9 : decode cX12_isRead 9 = .ok (.iload_n 2, 1) := by decide +kernel
theorem dX12_isRead_10 : decode cX12_isRead 10 = .ok (.invokevirtual 181, 3) := by decide +kernel
theorem dX12_isRead_13 : decode cX12_isRead 13 = .ok (.aload_n 0, 1) := by decide +kernel
theorem dX12_isRead_14 : decode cX12_isRead 14 = .ok (.getfield 13, 3) := by decide +kernel
theorem dX12_isRead_17 : decode cX12_isRead 17 = .ok (.iload_n 3, 1) := by decide +kernel
theorem dX12_isRead_18 : decode cX12_isRead 18 = .ok (.iaload, 1) := by decide +kernel
theorem dX12_isRead_19 : decode cX12_isRead 19 = .ok (.aload_n 0, 1) := by decide +kernel
theorem dX12_isRead_20 : decode cX12_isRead 20 = .ok (.getfield 16, 3) := by decide +kernel
theorem dX12_isRead_23 : decode cX12_isRead 23 = .ok (.iload_n 3, 1) := by decide +kernel
theorem dX12_isRead_24 : decode cX12_isRead 24 = .ok (.iaload, 1) := by decide +kernel
theorem dX12_isRead_25 : decode cX12_isRead 25 = .ok (.invokestatic 184, 3) := by decide +kernel
theorem dX12_isRead_28 : decode cX12_isRead 28 = .ok (.if_icmp .gt 7, 3) := by decide +kernel
theorem dX12_isRead_31 : decode cX12_isRead 31 = .ok (.iconst 1, 1) := by decide +kernel
theorem dX12_isRead_32 : decode cX12_isRead 32 = .ok (.goto 4, 3) := by decide +kernel
theorem dX12_isRead_35 : decode cX12_isRead 35 = .ok (.iconst 0, 1) := by decide +kernel
theorem dX12_isRead_36 : decode cX12_isRead 36 = .ok (.ireturn, 1) := by decide +kernel
set_option maxRecDepth 20000 in
theorem ggX12_isLayer_X12_isCell : GoodIn wsX12_isLayer wsX12_isCell := goodIn_r _ [5, 6, 7, 8, 4, 9] (by decide +kernel) (by decide +kernel)
set_option maxRecDepth 20000 in
theorem gX12_isLayer_X12_isCell : GoodIn wsX12_isLayer (va_wsS RX12 171 yX12_isCell wsX12_isCell) := goodIn_app (goodIn_of _ (by decide +kernel)) ggX12_isLayer_X12_isCell
set_option maxRecDepth 20000 in
theorem ggX12_isLayer_X12_in : GoodIn wsX12_isLayer wsX12_in := goodIn_r _ [9] (by decide +kernel) (by decide +kernel)
set_option maxRecDepth 20000 in
theorem gX12_isLayer_X12_in : GoodIn wsX12_isLayer (va_wsS RX12 68 yX12_in wsX12_in) := goodIn_app (goodIn_of _ (by decide +kernel)) ggX12_isLayer_X12_in
theorem dX12_isLayer_0 : decode cX12_isLayer 0 = .ok (.iload_n 1, 1) := by decide +kernel
theorem dX12_isLayer_1 : decode cX12_isLayer 1 = .ok (.invokestatic 171, 3) := by decide +kernel
theorem dX12_isLayer_4 : decode cX12_isLayer 4 = .ok (.ifCond .eq 36, 3) := by decide +kernel
theorem dX12_isLayer_7 : decode cX12_isLayer 7 = .ok (.iload_n 2, 1) := by decide +kernel
theorem dX12_isLayer_8 : decode cX12_isLayer 8 = .ok (.i2l, 1) := by decide +kernel
theorem dX12_isLayer_9 : decode cX12_isLayer 9 = .ok (.lconst 0, 1) := by decide +kernel
theorem dX12_isLayer_10 : decode cX12_isLayer 10 = .ok (.aload_n 0, 1) := by decide +kernel
theorem dX12_isLayer_11 : decode cX12_isLayer 11 = .ok (.getfield 7, 3) := by decide +kernel
theorem dX12_isLayer_14 : decode cX12_isLayer 14 = .ok (.iload_n 1, 1) := by decide +kernel
theorem dX12_isLayer_15 : decode cX12_isLayer 15 = .ok (.invokestatic 171, 3) := by decide +kernel
theorem dX12_isLayer_18 : decode cX12_isLayer 18 = .ok (.ifCond .eq 7, 3) := by decide +kernel
theorem dX12_isLayer_21 : decode cX12_isLayer 21 = .ok (.iload_n 1, 1) := by decide +kernel
theorem dX12_isLayer_22 : decode cX12_isLayer 22 = .ok (.goto 4, 3) := by decide +kernel
theorem dX12_isLayer_25 : decode cX12_isLayer 25 = .ok (.iconst 0, 1) := by decide +kernel
theorem dX12_isLayer_26 : decode cX12_isLayer 26 = .ok (.iaload, 1) := by decide +kernel
theorem dX12_isLayer_27 : decode cX12_isLayer 27 = .ok (.iconst 1, 1) := by decide +kernel
theorem dX12_isLayer_28 : decode cX12_isLayer 28 = .ok (.isub, 1) := by decide +kernel
theorem dX12_isLayer_29 : decode cX12_isLayer 29 = .ok (.i2l, 1) := by decide +kernel
theorem dX12_isLayer_30 : decode cX12_isLayer 30 = .ok (.invokestatic 68, 3) := by decide +kernel
theorem dX12_isLayer_33 : decode cX12_isLayer 33 = .ok (.ifCond .eq 7, 3) := by decide +kernel
theorem dX12_isLayer_36 : decode cX12_isLayer 36 = .ok (.iconst 1, 1) := by decide +kernel
theorem dX12_isLayer_37 : decode cX12_isLayer 37 = .ok (.goto 4, 3) := by decide +kernel
theorem dX12_isLayer_40 : decode cX12_isLayer 40 = .ok (.iconst 0, 1) := by decide +kernel
theorem dX12_isLayer_41 : decode cX12_isLayer 41 = .ok (.ireturn, 1) := by decide +kernel
set_option maxRecDepth 20000 in
theorem ggX12_layer_X12_isLayer : GoodIn wsX12_layer wsX12_isLayer := goodIn_r _ [11, 12, 13, 14, 10, 15, 2, 16, 17, 18, 30, 31, 32, 33, 34, 35, 36, 37, 38, 39, 40, 41, 42, 43, 44, 45, 46, 47, 48, 49, 50, 51, 52, 53, 54, 55, 56, 57, 58] (by decide +kernel) (by decide +kernel)
set_option maxRecDepth 20000 in
theorem gX12_layer_X12_isLayer : GoodIn wsX12_layer (wsV RX12 187 RX12 yX12_isLayer wsX12_isLayer) := goodIn_app (goodIn_of _ (by decide +kernel)) ggX12_layer_X12_isLayer
set_option maxRecDepth 20000 in
theorem ggX12_layer_X12_in : GoodIn wsX12_layer wsX12_in := goodIn_r _ [18] (by decide +kernel) (by decide +kernel)
set_option maxRecDepth 20000 in
theorem gX12_layer_X12_in : GoodIn wsX12_layer (va_wsS RX12 68 yX12_in wsX12_in) := goodIn_app (goodIn_of _ (by decide +kernel)) ggX12_layer_X12_in
set_option maxRecDepth 20000 in
theorem ggX12_layer_X12_depthOf : GoodIn wsX12_layer wsX12_depthOf := goodIn_r _ [22, 12, 6, 30, 31, 32, 33, 34, 35, 36, 37, 38, 39, 40, 41, 42, 43, 44, 45, 46, 47, 48, 49, 50, 51, 52, 53, 54, 55, 56, 57, 58] (by decide +kernel) (by decide +kernel)
set_option maxRecDepth 20000 in
theorem gX12_layer_X12_depthOf : GoodIn wsX12_layer (wsV RX12 181 RX12 yX12_depthOf wsX12_depthOf) := goodIn_app (goodIn_of _ (by decide +kernel)) ggX12_layer_X12_depthOf
set_option maxRecDepth 20000 in
theorem ggX12_layer_X12_isRead : GoodIn wsX12_layer wsX12_isRead := goodIn_r _ [26, 3, 4, 19, 20, 21, 10, 22, 12, 6, 27, 28, 29, 30, 31, 32, 33, 34, 35, 36, 37, 38, 39, 40, 41, 42, 43, 44, 45, 46, 47, 48, 49, 50, 51, 52, 53, 54, 55, 56, 57, 58] (by decide +kernel) (by decide +kernel)
set_option maxRecDepth 20000 in
theorem gX12_layer_X12_isRead : GoodIn wsX12_layer (wsV RX12 191 RX12 yX12_isRead wsX12_isRead) := goodIn_app (goodIn_of _ (by decide +kernel)) ggX12_layer_X12_isRead
theorem dX12_layer_0 : decode cX12_layer 0 = .ok (.aload_n 0, 1) := by decide +kernel
theorem dX12_layer_1 : decode cX12_layer 1 = .ok (.iconst 0, 1) := by decide +kernel
theorem dX12_layer_2 : decode cX12_layer 2 = .ok (.putfield 62, 3) := by decide +kernel
theorem dX12_layer_5 : decode cX12_layer 5 = .ok (.aload_n 0, 1) := by decide +kernel
theorem dX12_layer_6 : decode cX12_layer 6 = .ok (.iload_n 1, 1) := by decide +kernel
theorem dX12_layer_7 : decode cX12_layer 7 = .ok (.iload_n 2, 1) := by decide +kernel
theorem dX12_layer_8 : decode cX12_layer 8 = .ok (.invokevirtual 187, 3) := by decide +kernel
theorem dX12_layer_11 : decode cX12_layer 11 = .ok (.ifCond .eq 15, 3) := by decide +kernel
theorem dX12_layer_14 : decode cX12_layer 14 = .ok (.iload_n 3, 1) := by decide +kernel
theorem dX12_layer_15 : decode cX12_layer 15 = .ok (.i2l, 1) := by decide +kernel
theorem dX12_layer_16 : decode cX12_layer 16 = .ok (.lconst 0, 1) := by decide +kernel
theorem dX12_layer_17 : decode cX12_layer 17 = .ok (.ldc2_w 66, 3) := by decide +kernel
theorem dX12_layer_20 : decode cX12_layer 20 = .ok (.invokestatic 68, 3) := by decide +kernel
theorem dX12_layer_23 : decode cX12_layer 23 = .ok (.ifCond .ne 5, 3) := by decide +kernel
theorem dX12_layer_26 : decode cX12_layer 26 = .ok (.iconst (-1), 1) := by decide +kernel
theorem dX12_layer_27 : decode cX12_layer 27 = .ok (.ireturn, 1) := by decide +kernel
theorem dX12_layer_28 : decode cX12_layer 28 = .ok (.bipush 8, 2) := by decide +kernel
theorem dX12_layer_30 : decode cX12_layer 30 = .ok (.iload_n 1, 1) := by decide +kernel
theorem dX12_layer_31 : decode cX12_layer 31 = .ok (.imul, 1) := by decide +kernel
theorem dX12_layer_32 : decode cX12_layer 32 = .ok (.iload_n 2, 1) := by decide +kernel
theorem dX12_layer_33 : decode cX12_layer 33 = .ok (.iadd, 1) := by decide +kernel
theorem dX12_layer_34 : decode cX12_layer 34 = .ok (.istore 4, 2) := by decide +kernel
theorem dX12_layer_36 : decode cX12_layer 36 = .ok (.iload_n 3, 1) := by decide +kernel
theorem dX12_layer_37 : decode cX12_layer 37 = .ok (.tableswitch 74 0 4 #[35, 43, 51, 59, 67], 35) := by decide +kernel
theorem dX12_layer_72 : decode cX12_layer 72 = .ok (.aload_n 0, 1) := by decide +kernel
theorem dX12_layer_73 : decode cX12_layer 73 = .ok (.getfield 13, 3) := by decide +kernel
theorem dX12_layer_76 : decode cX12_layer 76 = .ok (.iload 4, 2) := by decide +kernel
theorem dX12_layer_78 : decode cX12_layer 78 = .ok (.iaload, 1) := by decide +kernel
theorem dX12_layer_79 : decode cX12_layer 79 = .ok (.ireturn, 1) := by decide +kernel
theorem dX12_layer_80 : decode cX12_layer 80 = .ok (.aload_n 0, 1) := by decide +kernel
theorem dX12_layer_81 : decode cX12_layer 81 = .ok (.getfield 16, 3) := by decide +kernel
theorem dX12_layer_84 : decode cX12_layer 84 = .ok (.iload 4, 2) := by decide +kernel
theorem dX12_layer_86 : decode cX12_layer 86 = .ok (.iaload, 1) := by decide +kernel
theorem dX12_layer_87 : decode cX12_layer 87 = .ok (.ireturn, 1) := by decide +kernel
theorem dX12_layer_88 : decode cX12_layer 88 = .ok (.aload_n 0, 1) := by decide +kernel
theorem dX12_layer_89 : decode cX12_layer 89 = .ok (.getfield 19, 3) := by decide +kernel
theorem dX12_layer_92 : decode cX12_layer 92 = .ok (.iload 4, 2) := by decide +kernel
theorem dX12_layer_94 : decode cX12_layer 94 = .ok (.iaload, 1) := by decide +kernel
theorem dX12_layer_95 : decode cX12_layer 95 = .ok (.ireturn, 1) := by decide +kernel
theorem dX12_layer_96 : decode cX12_layer 96 = .ok (.aload_n 0, 1) := by decide +kernel
theorem dX12_layer_97 : decode cX12_layer 97 = .ok (.getfield 22, 3) := by decide +kernel
theorem dX12_layer_100 : decode cX12_layer 100 = .ok (.iload 4, 2) := by decide +kernel
theorem dX12_layer_102 : decode cX12_layer 102 = .ok (.iaload, 1) := by decide +kernel
theorem dX12_layer_103 : decode cX12_layer 103 = .ok (.ireturn, 1) := by decide +kernel
theorem dX12_layer_104 : decode cX12_layer 104 = .ok (.aload_n 0, 1) := by decide +kernel
theorem dX12_layer_105 : decode cX12_layer 105 = .ok (.iload_n 1, 1) := by decide +kernel
theorem dX12_layer_106 : decode cX12_layer 106 = .ok (.iload_n 2, 1) := by decide +kernel
theorem dX12_layer_107 : decode cX12_layer 107 = .ok (.invokevirtual 181, 3) := by decide +kernel
theorem dX12_layer_110 : decode cX12_layer 110 = .ok (.ireturn, 1) := by decide +kernel
theorem dX12_layer_111 : decode cX12_layer 111 = .ok (.aload_n 0, 1) := by decide +kernel
theorem dX12_layer_112 : decode cX12_layer 112 = .ok (.iload_n 1, 1) := by decide +kernel
theorem dX12_layer_113 : decode cX12_layer 113 = .ok (.iload_n 2, 1) := by decide +kernel
theorem dX12_layer_114 : decode cX12_layer 114 = .ok (.invokevirtual 191, 3) := by decide +kernel
theorem dX12_layer_117 : decode cX12_layer 117 = .ok (.ifCond .eq 7, 3) := by decide +kernel
theorem dX12_layer_120 : decode cX12_layer 120 = .ok (.iconst 1, 1) := by decide +kernel
theorem dX12_layer_121 : decode cX12_layer 121 = .ok (.goto 4, 3) := by decide +kernel
theorem dX12_layer_124 : decode cX12_layer 124 = .ok (.iconst 0, 1) := by decide +kernel
theorem dX12_layer_125 : decode cX12_layer 125 = .ok (.ireturn, 1) := by decide +kernel
set_option maxRecDepth 20000 in
theorem ggX12_cell_X12_isCell : GoodIn wsX12_cell wsX12_isCell := goodIn_r _ [6, 7, 8, 9, 5, 10] (by decide +kernel) (by decide +kernel)
set_option maxRecDepth 20000 in
theorem gX12_cell_X12_isCell : GoodIn wsX12_cell (va_wsS RX12 171 yX12_isCell wsX12_isCell) := goodIn_app (goodIn_of _ (by decide +kernel)) ggX12_cell_X12_isCell
set_option maxRecDepth 20000 in
theorem ggX12_cell_X12_in : GoodIn wsX12_cell wsX12_in := goodIn_r _ [10] (by decide +kernel) (by decide +kernel)
set_option maxRecDepth 20000 in
theorem gX12_cell_X12_in : GoodIn wsX12_cell (va_wsS RX12 68 yX12_in wsX12_in) := goodIn_app (goodIn_of _ (by decide +kernel)) ggX12_cell_X12_in
set_option maxRecDepth 20000 in
theorem ggX12_cell_X12_iceOf : GoodIn wsX12_cell wsX12_iceOf := goodIn_r _ [14, 2, 15, 16, 17, 18, 19, 20, 21, 22, 23, 24, 25, 26, 27, 28, 29, 30, 31, 32, 33, 34, 35, 36, 37, 38, 39, 40, 41, 42, 43, 44] (by decide +kernel) (by decide +kernel)
set_option maxRecDepth 20000 in
theorem gX12_cell_X12_iceOf : GoodIn wsX12_cell (wsV RX12 105 RX12 yX12_iceOf wsX12_iceOf) := goodIn_app (goodIn_of _ (by decide +kernel)) ggX12_cell_X12_iceOf
theorem dX12_cell_0 : decode cX12_cell 0 = .ok (.aload_n 0, 1) := by decide +kernel
theorem dX12_cell_1 : decode cX12_cell 1 = .ok (.iconst 0, 1) := by decide +kernel
theorem dX12_cell_2 : decode cX12_cell 2 = .ok (.putfield 62, 3) := by decide +kernel
theorem dX12_cell_5 : decode cX12_cell 5 = .ok (.iload_n 1, 1) := by decide +kernel
theorem dX12_cell_6 : decode cX12_cell 6 = .ok (.invokestatic 171, 3) := by decide +kernel
theorem dX12_cell_9 : decode cX12_cell 9 = .ok (.ifCond .eq 13, 3) := by decide +kernel
theorem dX12_cell_12 : decode cX12_cell 12 = .ok (.iload_n 2, 1) := by decide +kernel
theorem dX12_cell_13 : decode cX12_cell 13 = .ok (.i2l, 1) := by decide +kernel
theorem dX12_cell_14 : decode cX12_cell 14 = .ok (.lconst 0, 1) := by decide +kernel
theorem dX12_cell_15 : decode cX12_cell 15 = .ok (.lconst 1, 1) := by decide +kernel
theorem dX12_cell_16 : decode cX12_cell 16 = .ok (.invokestatic 68, 3) := by decide +kernel
theorem dX12_cell_19 : decode cX12_cell 19 = .ok (.ifCond .ne 7, 3) := by decide +kernel
theorem dX12_cell_22 : decode cX12_cell 22 = .ok (.iconst (-1), 1) := by decide +kernel
theorem dX12_cell_23 : decode cX12_cell 23 = .ok (.goto 21, 3) := by decide +kernel
theorem dX12_cell_26 : decode cX12_cell 26 = .ok (.iload_n 2, 1) := by decide +kernel
theorem dX12_cell_27 : decode cX12_cell 27 = .ok (.ifCond .ne 12, 3) := by decide +kernel
theorem dX12_cell_30 : decode cX12_cell 30 = .ok (.aload_n 0, 1) := by decide +kernel
theorem dX12_cell_31 : decode cX12_cell 31 = .ok (.getfield 7, 3) := by decide +kernel
theorem dX12_cell_34 : decode cX12_cell 34 = .ok (.iload_n 1, 1) := by decide +kernel
theorem dX12_cell_35 : decode cX12_cell 35 = .ok (.iaload, 1) := by decide +kernel
theorem dX12_cell_36 : decode cX12_cell 36 = .ok (.goto 8, 3) := by decide +kernel
theorem dX12_cell_39 : decode cX12_cell 39 = .ok (.aload_n 0, 1) := by decide +kernel
theorem dX12_cell_40 : decode cX12_cell 40 = .ok (.iload_n 1, 1) := by decide +kernel
theorem dX12_cell_41 : decode cX12_cell 41 = .ok (.invokevirtual 105, 3) := by decide +kernel
theorem dX12_cell_44 : decode cX12_cell 44 = .ok (.ireturn, 1) := by decide +kernel
set_option maxRecDepth 20000 in
theorem ggX12_holds_X12_isCell : GoodIn wsX12_holds wsX12_isCell := goodIn_r _ [7, 8, 9, 10, 6, 11] (by decide +kernel) (by decide +kernel)
set_option maxRecDepth 20000 in
theorem gX12_holds_X12_isCell : GoodIn wsX12_holds (va_wsS RX12 171 yX12_isCell wsX12_isCell) := goodIn_app (goodIn_of _ (by decide +kernel)) ggX12_holds_X12_isCell
set_option maxRecDepth 20000 in
theorem ggX12_holds_X12_isRead : GoodIn wsX12_holds wsX12_isRead := goodIn_r _ [15, 16, 3, 17, 18, 19, 6, 20, 2, 21, 22, 23, 24, 25, 26, 27, 28, 29, 30, 31, 32, 33, 34, 35, 36, 37, 38, 39, 40, 41, 42, 43, 44, 45, 46, 47, 48, 49, 50, 51, 52, 53] (by decide +kernel) (by decide +kernel)
set_option maxRecDepth 20000 in
theorem gX12_holds_X12_isRead : GoodIn wsX12_holds (wsV RX12 191 RX12 yX12_isRead wsX12_isRead) := goodIn_app (goodIn_of _ (by decide +kernel)) ggX12_holds_X12_isRead
theorem dX12_holds_0 : decode cX12_holds 0 = .ok (.aload_n 0, 1) := by decide +kernel
theorem dX12_holds_1 : decode cX12_holds 1 = .ok (.iconst 0, 1) := by decide +kernel
theorem dX12_holds_2 : decode cX12_holds 2 = .ok (.putfield 62, 3) := by decide +kernel
theorem dX12_holds_5 : decode cX12_holds 5 = .ok (.iload_n 1, 1) := by decide +kernel
theorem dX12_holds_6 : decode cX12_holds 6 = .ok (.invokestatic 171, 3) := by decide +kernel
theorem dX12_holds_9 : decode cX12_holds 9 = .ok (.ifCond .ne 5, 3) := by decide +kernel
theorem dX12_holds_12 : decode cX12_holds 12 = .ok (.iconst (-1), 1) := by decide +kernel
theorem dX12_holds_13 : decode cX12_holds 13 = .ok (.ireturn, 1) := by decide +kernel
theorem dX12_holds_14 : decode cX12_holds 14 = .ok (.aload_n 0, 1) := by decide +kernel
theorem dX12_holds_15 : decode cX12_holds 15 = .ok (.getfield 7, 3) := by decide +kernel
theorem dX12_holds_18 : decode cX12_holds 18 = .ok (.iload_n 1, 1) := by decide +kernel
theorem dX12_holds_19 : decode cX12_holds 19 = .ok (.iaload, 1) := by decide +kernel
theorem dX12_holds_20 : decode cX12_holds 20 = .ok (.iconst 1, 1) := by decide +kernel
theorem dX12_holds_21 : decode cX12_holds 21 = .ok (.isub, 1) := by decide +kernel
theorem dX12_holds_22 : decode cX12_holds 22 = .ok (.istore_n 2, 1) := by decide +kernel
theorem dX12_holds_23 : decode cX12_holds 23 = .ok (.iload_n 2, 1) := by decide +kernel
theorem dX12_holds_24 : decode cX12_holds 24 = .ok (.ifCond .lt 30, 3) := by decide +kernel
theorem dX12_holds_27 : decode cX12_holds 27 = .ok (.aload_n 0, 1) := by decide +kernel
theorem dX12_holds_28 : decode cX12_holds 28 = .ok (.iload_n 1, 1) := by decide +kernel
theorem dX12_holds_29 : decode cX12_holds 29 = .ok (.iload_n 2, 1) := by decide +kernel
theorem dX12_holds_30 : decode cX12_holds 30 = .ok (.invokevirtual 191, 3) := by decide +kernel
theorem dX12_holds_33 : decode cX12_holds 33 = .ok (.ifCond .eq 15, 3) := by decide +kernel
theorem dX12_holds_36 : decode cX12_holds 36 = .ok (.aload_n 0, 1) := by decide +kernel
theorem dX12_holds_37 : decode cX12_holds 37 = .ok (.getfield 16, 3) := by decide +kernel
theorem dX12_holds_40 : decode cX12_holds 40 = .ok (.bipush 8, 2) := by decide +kernel
theorem dX12_holds_42 : decode cX12_holds 42 = .ok (.iload_n 1, 1) := by decide +kernel
theorem dX12_holds_43 : decode cX12_holds 43 = .ok (.imul, 1) := by decide +kernel
theorem dX12_holds_44 : decode cX12_holds 44 = .ok (.iload_n 2, 1) := by decide +kernel
theorem dX12_holds_45 : decode cX12_holds 45 = .ok (.iadd, 1) := by decide +kernel
theorem dX12_holds_46 : decode cX12_holds 46 = .ok (.iaload, 1) := by decide +kernel
theorem dX12_holds_47 : decode cX12_holds 47 = .ok (.ireturn, 1) := by decide +kernel
theorem dX12_holds_48 : decode cX12_holds 48 = .ok (.iinc 2 (-1), 3) := by decide +kernel
theorem dX12_holds_51 : decode cX12_holds 51 = .ok (.goto (-28), 3) := by decide +kernel
theorem dX12_holds_54 : decode cX12_holds 54 = .ok (.bipush (-4), 2) := by decide +kernel
theorem dX12_holds_56 : decode cX12_holds 56 = .ok (.ireturn, 1) := by decide +kernel
set_option maxRecDepth 20000 in
theorem ggX12_latest_X12_in : GoodIn wsX12_latest wsX12_in := goodIn_r _ [9] (by decide +kernel) (by decide +kernel)
set_option maxRecDepth 20000 in
theorem gX12_latest_X12_in : GoodIn wsX12_latest (va_wsS RX12 68 yX12_in wsX12_in) := goodIn_app (goodIn_of _ (by decide +kernel)) ggX12_latest_X12_in
theorem dX12_latest_0 : decode cX12_latest 0 = .ok (.aload_n 0, 1) := by decide +kernel
theorem dX12_latest_1 : decode cX12_latest 1 = .ok (.iconst 0, 1) := by decide +kernel
theorem dX12_latest_2 : decode cX12_latest 2 = .ok (.putfield 62, 3) := by decide +kernel
theorem dX12_latest_5 : decode cX12_latest 5 = .ok (.iload_n 1, 1) := by decide +kernel
theorem dX12_latest_6 : decode cX12_latest 6 = .ok (.i2l, 1) := by decide +kernel
theorem dX12_latest_7 : decode cX12_latest 7 = .ok (.lconst 0, 1) := by decide +kernel
theorem dX12_latest_8 : decode cX12_latest 8 = .ok (.ldc2_w 174, 3) := by decide +kernel
theorem dX12_latest_11 : decode cX12_latest 11 = .ok (.invokestatic 68, 3) := by decide +kernel
theorem dX12_latest_14 : decode cX12_latest 14 = .ok (.ifCond .ne 5, 3) := by decide +kernel
theorem dX12_latest_17 : decode cX12_latest 17 = .ok (.iconst (-1), 1) := by decide +kernel
theorem dX12_latest_18 : decode cX12_latest 18 = .ok (.ireturn, 1) := by decide +kernel
theorem dX12_latest_19 : decode cX12_latest 19 = .ok (.bipush (-4), 2) := by decide +kernel
theorem dX12_latest_21 : decode cX12_latest 21 = .ok (.istore_n 2, 1) := by decide +kernel
theorem dX12_latest_22 : decode cX12_latest 22 = .ok (.iconst (-1), 1) := by decide +kernel
theorem dX12_latest_23 : decode cX12_latest 23 = .ok (.istore_n 3, 1) := by decide +kernel
theorem dX12_latest_24 : decode cX12_latest 24 = .ok (.iconst 0, 1) := by decide +kernel
theorem dX12_latest_25 : decode cX12_latest 25 = .ok (.istore 4, 2) := by decide +kernel
theorem dX12_latest_27 : decode cX12_latest 27 = .ok (.iload 4, 2) := by decide +kernel
theorem dX12_latest_29 : decode cX12_latest 29 = .ok (.bipush 6, 2) := by decide +kernel
theorem dX12_latest_31 : decode cX12_latest 31 = .ok (.if_icmp .ge 105, 3) := by decide +kernel
theorem dX12_latest_34 : decode cX12_latest 34 = .ok (.aload_n 0, 1) := by decide +kernel
theorem dX12_latest_35 : decode cX12_latest 35 = .ok (.getfield 7, 3) := by decide +kernel
theorem dX12_latest_38 : decode cX12_latest 38 = .ok (.iload 4, 2) := by decide +kernel
theorem dX12_latest_40 : decode cX12_latest 40 = .ok (.iaload, 1) := by decide +kernel
theorem dX12_latest_41 : decode cX12_latest 41 = .ok (.iconst 1, 1) := by decide +kernel
theorem dX12_latest_42 : decode cX12_latest 42 = .ok (.isub, 1) := by decide +kernel
theorem dX12_latest_43 : decode cX12_latest 43 = .ok (.istore 5, 2) := by decide +kernel
theorem dX12_latest_45 : decode cX12_latest 45 = .ok (.iload 5, 2) := by decide +kernel
theorem dX12_latest_47 : decode cX12_latest 47 = .ok (.ifCond .lt 83, 3) := by decide +kernel
theorem dX12_latest_50 : decode cX12_latest 50 = .ok (.bipush 8, 2) := by decide +kernel
theorem dX12_latest_52 : decode cX12_latest 52 = .ok (.iload 4, 2) := by decide +kernel
theorem dX12_latest_54 : decode cX12_latest 54 = .ok (.imul, 1) := by decide +kernel
theorem dX12_latest_55 : decode cX12_latest 55 = .ok (.iload 5, 2) := by decide +kernel
theorem dX12_latest_57 : decode cX12_latest 57 = .ok (.iadd, 1) := by decide +kernel
theorem dX12_latest_58 : decode cX12_latest 58 = .ok (.istore 6, 2) := by decide +kernel
theorem dX12_latest_60 : decode cX12_latest 60 = .ok (.aload_n 0, 1) := by decide +kernel
theorem dX12_latest_61 : decode cX12_latest 61 = .ok (.getfield 16, 3) := by decide +kernel
theorem dX12_latest_64 : decode cX12_latest 64 = .ok (.iload 6, 2) := by decide +kernel
theorem dX12_latest_66 : decode cX12_latest 66 = .ok (.iaload, 1) := by decide +kernel
theorem dX12_latest_67 : decode cX12_latest 67 = .ok (.iload_n 1, 1) := by decide +kernel
theorem dX12_latest_68 : decode cX12_latest 68 = .ok (.if_icmp .ne 18, 3) := by decide +kernel
theorem dX12_latest_71 : decode cX12_latest 71 = .ok (.aload_n 0, 1) := by decide +kernel
theorem dX12_latest_72 : decode cX12_latest 72 = .ok (.getfield 19, 3) := by decide +kernel
theorem dX12_latest_75 : decode cX12_latest 75 = .ok (.iload 6, 2) := by decide +kernel
theorem dX12_latest_77 : decode cX12_latest 77 = .ok (.iaload, 1) := by decide +kernel
theorem dX12_latest_78 : decode cX12_latest 78 = .ok (.iload_n 3, 1) := by decide +kernel
theorem dX12_latest_79 : decode cX12_latest 79 = .ok (.if_icmp .le 7, 3) := by decide +kernel
theorem dX12_latest_82 : decode cX12_latest 82 = .ok (.iconst 1, 1) := by decide +kernel
theorem dX12_latest_83 : decode cX12_latest 83 = .ok (.goto 4, 3) := by decide +kernel
theorem dX12_latest_86 : decode cX12_latest 86 = .ok (.iconst 0, 1) := by decide +kernel
theorem dX12_latest_87 : decode cX12_latest 87 = .ok (.istore 7, 2) := by decide +kernel
theorem dX12_latest_89 : decode cX12_latest 89 = .ok (.iload 7, 2) := by decide +kernel
theorem dX12_latest_91 : decode cX12_latest 91 = .ok (.ifCond .eq 14, 3) := by decide +kernel
theorem dX12_latest_94 : decode cX12_latest 94 = .ok (.bipush 10, 2) := by decide +kernel
theorem dX12_latest_96 : decode cX12_latest 96 = .ok (.iload 4, 2) := by decide +kernel
theorem dX12_latest_98 : decode cX12_latest 98 = .ok (.imul, 1) := by decide +kernel
theorem dX12_latest_99 : decode cX12_latest 99 = .ok (.iload 5, 2) := by decide +kernel
theorem dX12_latest_101 : decode cX12_latest 101 = .ok (.iadd, 1) := by decide +kernel
theorem dX12_latest_102 : decode cX12_latest 102 = .ok (.goto 4, 3) := by decide +kernel
theorem dX12_latest_105 : decode cX12_latest 105 = .ok (.iload_n 2, 1) := by decide +kernel
theorem dX12_latest_106 : decode cX12_latest 106 = .ok (.istore_n 2, 1) := by decide +kernel
theorem dX12_latest_107 : decode cX12_latest 107 = .ok (.iload 7, 2) := by decide +kernel
theorem dX12_latest_109 : decode cX12_latest 109 = .ok (.ifCond .eq 13, 3) := by decide +kernel
theorem dX12_latest_112 : decode cX12_latest 112 = .ok (.aload_n 0, 1) := by decide +kernel
theorem dX12_latest_113 : decode cX12_latest 113 = .ok (.getfield 19, 3) := by decide +kernel
theorem dX12_latest_116 : decode cX12_latest 116 = .ok (.iload 6, 2) := by decide +kernel
theorem dX12_latest_118 : decode cX12_latest 118 = .ok (.iaload, 1) := by decide +kernel
theorem dX12_latest_119 : decode cX12_latest 119 = .ok (.goto 4, 3) := by decide +kernel
theorem dX12_latest_122 : decode cX12_latest 122 = .ok (.iload_n 3, 1) := by decide +kernel
theorem dX12_latest_123 : decode cX12_latest 123 = .ok (.istore_n 3, 1) := by decide +kernel
theorem dX12_latest_124 : decode cX12_latest 124 = .ok (.iinc 5 (-1), 3) := by decide +kernel
theorem dX12_latest_127 : decode cX12_latest 127 = .ok (.goto (-82), 3) := by decide +kernel
theorem dX12_latest_130 : decode cX12_latest 130 = .ok (.iinc 4 1, 3) := by decide +kernel
theorem dX12_latest_133 : decode cX12_latest 133 = .ok (.goto (-106), 3) := by decide +kernel
theorem dX12_latest_136 : decode cX12_latest 136 = .ok (.iload_n 2, 1) := by decide +kernel
theorem dX12_latest_137 : decode cX12_latest 137 = .ok (.ireturn, 1) := by decide +kernel
set_option maxRecDepth 20000 in
theorem ggX12_seenIn_X12_lightOf : GoodIn wsX12_seenIn wsX12_lightOf := goodIn_r _ [8] (by decide +kernel) (by decide +kernel)
set_option maxRecDepth 20000 in
theorem gX12_seenIn_X12_lightOf : GoodIn wsX12_seenIn (va_wsS RX12 184 yX12_lightOf wsX12_lightOf) := goodIn_app (goodIn_of _ (by decide +kernel)) ggX12_seenIn_X12_lightOf
theorem dX12_seenIn_0 : decode cX12_seenIn 0 = .ok (.iload_n 2, 1) := by decide +kernel
theorem dX12_seenIn_1 : decode cX12_seenIn 1 = .ok (.istore_n 3, 1) := by decide +kernel
theorem dX12_seenIn_2 : decode cX12_seenIn 2 = .ok (.aload_n 0, 1) := by decide +kernel
theorem dX12_seenIn_3 : decode cX12_seenIn 3 = .ok (.getfield 7, 3) := by decide +kernel
theorem dX12_seenIn_6 : decode cX12_seenIn 6 = .ok (.iload_n 1, 1) := by decide +kernel
theorem dX12_seenIn_7 : decode cX12_seenIn 7 = .ok (.iaload, 1) := by decide +kernel
theorem dX12_seenIn_8 : decode cX12_seenIn 8 = .ok (.iconst 1, 1) := by decide +kernel
theorem dX12_seenIn_9 : decode cX12_seenIn 9 = .ok (.isub, 1) := by decide +kernel
theorem dX12_seenIn_10 : decode cX12_seenIn 10 = .ok (.istore 4, 2) := by decide +kernel
theorem dX12_seenIn_12 : decode cX12_seenIn 12 = .ok (.iload 4, 2) := by decide +kernel
theorem dX12_seenIn_14 : decode cX12_seenIn 14 = .ok (.ifCond .lt 40, 3) := by decide +kernel
theorem dX12_seenIn_17 : decode cX12_seenIn 17 = .ok (.aload_n 0, 1) := by decide +kernel
theorem dX12_seenIn_18 : decode cX12_seenIn 18 = .ok (.getfield 22, 3) := by decide +kernel
theorem dX12_seenIn_21 : decode cX12_seenIn 21 = .ok (.bipush 8, 2) := by decide +kernel
theorem dX12_seenIn_23 : decode cX12_seenIn 23 = .ok (.iload_n 1, 1) := by decide +kernel
theorem dX12_seenIn_24 : decode cX12_seenIn 24 = .ok (.imul, 1) := by decide +kernel
theorem dX12_seenIn_25 : decode cX12_seenIn 25 = .ok (.iload 4, 2) := by decide +kernel
theorem dX12_seenIn_27 : decode cX12_seenIn 27 = .ok (.iadd, 1) := by decide +kernel
theorem dX12_seenIn_28 : decode cX12_seenIn 28 = .ok (.iaload, 1) := by decide +kernel
theorem dX12_seenIn_29 : decode cX12_seenIn 29 = .ok (.iload_n 3, 1) := by decide +kernel
theorem dX12_seenIn_30 : decode cX12_seenIn 30 = .ok (.if_icmp .gt 24, 3) := by decide +kernel
theorem dX12_seenIn_33 : decode cX12_seenIn 33 = .ok (.iload_n 3, 1) := by decide +kernel
theorem dX12_seenIn_34 : decode cX12_seenIn 34 = .ok (.aload_n 0, 1) := by decide +kernel
theorem dX12_seenIn_35 : decode cX12_seenIn 35 = .ok (.getfield 22, 3) := by decide +kernel
theorem dX12_seenIn_38 : decode cX12_seenIn 38 = .ok (.bipush 8, 2) := by decide +kernel
theorem dX12_seenIn_40 : decode cX12_seenIn 40 = .ok (.iload_n 1, 1) := by decide +kernel
theorem dX12_seenIn_41 : decode cX12_seenIn 41 = .ok (.imul, 1) := by decide +kernel
theorem dX12_seenIn_42 : decode cX12_seenIn 42 = .ok (.iload 4, 2) := by decide +kernel
theorem dX12_seenIn_44 : decode cX12_seenIn 44 = .ok (.iadd, 1) := by decide +kernel
theorem dX12_seenIn_45 : decode cX12_seenIn 45 = .ok (.iaload, 1) := by decide +kernel
theorem dX12_seenIn_46 : decode cX12_seenIn 46 = .ok (.isub, 1) := by decide +kernel
theorem dX12_seenIn_47 : decode cX12_seenIn 47 = .ok (.istore_n 3, 1) := by decide +kernel
theorem dX12_seenIn_48 : decode cX12_seenIn 48 = .ok (.iinc 4 (-1), 3) := by decide +kernel
theorem dX12_seenIn_51 : decode cX12_seenIn 51 = .ok (.goto (-39), 3) := by decide +kernel
theorem dX12_seenIn_54 : decode cX12_seenIn 54 = .ok (.iconst 0, 1) := by decide +kernel
theorem dX12_seenIn_55 : decode cX12_seenIn 55 = .ok (.istore 5, 2) := by decide +kernel
theorem dX12_seenIn_57 : decode cX12_seenIn 57 = .ok (.iload_n 3, 1) := by decide +kernel
theorem dX12_seenIn_58 : decode cX12_seenIn 58 = .ok (.ineg, 1) := by decide +kernel
theorem dX12_seenIn_59 : decode cX12_seenIn 59 = .ok (.istore 6, 2) := by decide +kernel
theorem dX12_seenIn_61 : decode cX12_seenIn 61 = .ok (.iload 4, 2) := by decide +kernel
theorem dX12_seenIn_63 : decode cX12_seenIn 63 = .ok (.istore 7, 2) := by decide +kernel
theorem dX12_seenIn_65 : decode cX12_seenIn 65 = .ok (.iload 7, 2) := by decide +kernel
theorem dX12_seenIn_67 : decode cX12_seenIn 67 = .ok (.ifCond .lt 85, 3) := by decide +kernel
theorem dX12_seenIn_70 : decode cX12_seenIn 70 = .ok (.bipush 8, 2) := by decide +kernel
theorem dX12_seenIn_72 : decode cX12_seenIn 72 = .ok (.iload_n 1, 1) := by decide +kernel
theorem dX12_seenIn_73 : decode cX12_seenIn 73 = .ok (.imul, 1) := by decide +kernel
theorem dX12_seenIn_74 : decode cX12_seenIn 74 = .ok (.iload 7, 2) := by decide +kernel
theorem dX12_seenIn_76 : decode cX12_seenIn 76 = .ok (.iadd, 1) := by decide +kernel
theorem dX12_seenIn_77 : decode cX12_seenIn 77 = .ok (.istore 8, 2) := by decide +kernel
theorem dX12_seenIn_79 : decode cX12_seenIn 79 = .ok (.iload 7, 2) := by decide +kernel
theorem dX12_seenIn_81 : decode cX12_seenIn 81 = .ok (.iload 4, 2) := by decide +kernel
theorem dX12_seenIn_83 : decode cX12_seenIn 83 = .ok (.if_icmp .ne 7, 3) := by decide +kernel
theorem dX12_seenIn_86 : decode cX12_seenIn 86 = .ok (.iconst 0, 1) := by decide +kernel
theorem dX12_seenIn_87 : decode cX12_seenIn 87 = .ok (.goto 5, 3) := by decide +kernel
theorem dX12_seenIn_90 : decode cX12_seenIn 90 = .ok (.iload 6, 2) := by decide +kernel
theorem dX12_seenIn_92 : decode cX12_seenIn 92 = .ok (.istore 9, 2) := by decide +kernel
theorem dX12_seenIn_94 : decode cX12_seenIn 94 = .ok (.iload 5, 2) := by decide +kernel
theorem dX12_seenIn_96 : decode cX12_seenIn 96 = .ok (.iload 9, 2) := by decide +kernel
theorem dX12_seenIn_98 : decode cX12_seenIn 98 = .ok (.aload_n 0, 1) := by decide +kernel
theorem dX12_seenIn_99 : decode cX12_seenIn 99 = .ok (.getfield 13, 3) := by decide +kernel
theorem dX12_seenIn_102 : decode cX12_seenIn 102 = .ok (.iload 8, 2) := by decide +kernel
theorem dX12_seenIn_104 : decode cX12_seenIn 104 = .ok (.iaload, 1) := by decide +kernel
theorem dX12_seenIn_105 : decode cX12_seenIn 105 = .ok (.aload_n 0, 1) := by decide +kernel
theorem dX12_seenIn_106 : decode cX12_seenIn 106 = .ok (.getfield 16, 3) := by decide +kernel
theorem dX12_seenIn_109 : decode cX12_seenIn 109 = .ok (.iload 8, 2) := by decide +kernel
theorem dX12_seenIn_111 : decode cX12_seenIn 111 = .ok (.iaload, 1) := by decide +kernel
theorem dX12_seenIn_112 : decode cX12_seenIn 112 = .ok (.invokestatic 184, 3) := by decide +kernel
theorem dX12_seenIn_115 : decode cX12_seenIn 115 = .ok (.if_icmp .gt 15, 3) := by decide +kernel
theorem dX12_seenIn_118 : decode cX12_seenIn 118 = .ok (.iconst 1, 1) := by decide +kernel
theorem dX12_seenIn_119 : decode cX12_seenIn 119 = .ok (.aload_n 0, 1) := by decide +kernel
theorem dX12_seenIn_120 : decode cX12_seenIn 120 = .ok (.getfield 16, 3) := by decide +kernel
theorem dX12_seenIn_123 : decode cX12_seenIn 123 = .ok (.iload 8, 2) := by decide +kernel
theorem dX12_seenIn_125 : decode cX12_seenIn 125 = .ok (.iaload, 1) := by decide +kernel
theorem dX12_seenIn_126 : decode cX12_seenIn 126 = .ok (.ishl, 1) := by decide +kernel
theorem dX12_seenIn_127 : decode cX12_seenIn 127 = .ok (.goto 4, 3) := by decide +kernel
theorem dX12_seenIn_130 : decode cX12_seenIn 130 = .ok (.iconst 0, 1) := by decide +kernel
theorem dX12_seenIn_131 : decode cX12_seenIn 131 = .ok (.ior, 1) := by decide +kernel
theorem dX12_seenIn_132 : decode cX12_seenIn 132 = .ok (.istore 5, 2) := by decide +kernel
theorem dX12_seenIn_134 : decode cX12_seenIn 134 = .ok (.iload 6, 2) := by decide +kernel
theorem dX12_seenIn_136 : decode cX12_seenIn 136 = .ok (.aload_n 0, 1) := by decide +kernel
theorem dX12_seenIn_137 : decode cX12_seenIn 137 = .ok (.getfield 22, 3) := by decide +kernel
theorem dX12_seenIn_140 : decode cX12_seenIn 140 = .ok (.iload 8, 2) := by decide +kernel
theorem dX12_seenIn_142 : decode cX12_seenIn 142 = .ok (.iaload, 1) := by decide +kernel
theorem dX12_seenIn_143 : decode cX12_seenIn 143 = .ok (.iadd, 1) := by decide +kernel
theorem dX12_seenIn_144 : decode cX12_seenIn 144 = .ok (.istore 6, 2) := by decide +kernel
theorem dX12_seenIn_146 : decode cX12_seenIn 146 = .ok (.iinc 7 (-1), 3) := by decide +kernel
theorem dX12_seenIn_149 : decode cX12_seenIn 149 = .ok (.goto (-84), 3) := by decide +kernel
theorem dX12_seenIn_152 : decode cX12_seenIn 152 = .ok (.iload 5, 2) := by decide +kernel
theorem dX12_seenIn_154 : decode cX12_seenIn 154 = .ok (.ireturn, 1) := by decide +kernel
set_option maxRecDepth 20000 in
theorem ggX12_seenBy_X12_seenIn : GoodIn wsX12_seenBy wsX12_seenIn := goodIn_r _ [5, 6, 7, 8, 9, 10, 11, 4, 12, 13, 14, 15, 16, 17, 18, 19, 20, 21, 22, 23, 24, 25, 26, 27, 28, 29, 30, 31, 32, 33, 34, 35, 36, 37, 38, 39, 40, 41] (by decide +kernel) (by decide +kernel)
set_option maxRecDepth 20000 in
theorem gX12_seenBy_X12_seenIn : GoodIn wsX12_seenBy (wsV RX12 194 RX12 yX12_seenIn wsX12_seenIn) := goodIn_app (goodIn_of _ (by decide +kernel)) ggX12_seenBy_X12_seenIn
theorem dX12_seenBy_0 : decode cX12_seenBy 0 = .ok (.iconst 0, 1) := by decide +kernel
theorem dX12_seenBy_1 : decode cX12_seenBy 1 = .ok (.istore_n 3, 1) := by decide +kernel
theorem dX12_seenBy_2 : decode cX12_seenBy 2 = .ok (.iconst 0, 1) := by decide +kernel
theorem dX12_seenBy_3 : decode cX12_seenBy 3 = .ok (.istore 4, 2) := by decide +kernel
theorem dX12_seenBy_5 : decode cX12_seenBy 5 = .ok (.iload 4, 2) := by decide +kernel
theorem dX12_seenBy_7 : decode cX12_seenBy 7 = .ok (.bipush 6, 2) := by decide +kernel
theorem dX12_seenBy_9 : decode cX12_seenBy 9 = .ok (.if_icmp .ge 33, 3) := by decide +kernel
theorem dX12_seenBy_12 : decode cX12_seenBy 12 = .ok (.iload_n 3, 1) := by decide +kernel
theorem dX12_seenBy_13 : decode cX12_seenBy 13 = .ok (.iload_n 1, 1) := by decide +kernel
theorem dX12_seenBy_14 : decode cX12_seenBy 14 = .ok (.iload 4, 2) := by decide +kernel
theorem dX12_seenBy_16 : decode cX12_seenBy 16 = .ok (.ishr, 1) := by decide +kernel
theorem dX12_seenBy_17 : decode cX12_seenBy 17 = .ok (.iconst 1, 1) := by decide +kernel
theorem dX12_seenBy_18 : decode cX12_seenBy 18 = .ok (.iand, 1) := by decide +kernel
theorem dX12_seenBy_19 : decode cX12_seenBy 19 = .ok (.iconst 1, 1) := by decide +kernel
theorem dX12_seenBy_20 : decode cX12_seenBy 20 = .ok (.if_icmp .ne 13, 3) := by decide +kernel
theorem dX12_seenBy_23 : decode cX12_seenBy 23 = .ok (.aload_n 0, 1) := by decide +kernel
theorem dX12_seenBy_24 : decode cX12_seenBy 24 = .ok (.iload 4, 2) := by decide +kernel
theorem dX12_seenBy_26 : decode cX12_seenBy 26 = .ok (.iload_n 2, 1) := by decide +kernel
theorem dX12_seenBy_27 : decode cX12_seenBy 27 = .ok (.invokevirtual 194, 3) := by decide +kernel
theorem dX12_seenBy_30 : decode cX12_seenBy 30 = .ok (.goto 4, 3) := by decide +kernel
theorem dX12_seenBy_33 : decode cX12_seenBy 33 = .ok (.iconst 0, 1) := by decide +kernel
theorem dX12_seenBy_34 : decode cX12_seenBy 34 = .ok (.ior, 1) := by decide +kernel
theorem dX12_seenBy_35 : decode cX12_seenBy 35 = .ok (.istore_n 3, 1) := by decide +kernel
theorem dX12_seenBy_36 : decode cX12_seenBy 36 = .ok (.iinc 4 1, 3) := by decide +kernel
theorem dX12_seenBy_39 : decode cX12_seenBy 39 = .ok (.goto (-34), 3) := by decide +kernel
theorem dX12_seenBy_42 : decode cX12_seenBy 42 = .ok (.iload_n 3, 1) := by decide +kernel
theorem dX12_seenBy_43 : decode cX12_seenBy 43 = .ok (.ireturn, 1) := by decide +kernel
set_option maxRecDepth 20000 in
theorem ggX12_seen_X12_in : GoodIn wsX12_seen wsX12_in := goodIn_r _ [7] (by decide +kernel) (by decide +kernel)
set_option maxRecDepth 20000 in
theorem gX12_seen_X12_in : GoodIn wsX12_seen (va_wsS RX12 68 yX12_in wsX12_in) := goodIn_app (goodIn_of _ (by decide +kernel)) ggX12_seen_X12_in
set_option maxRecDepth 20000 in
theorem ggX12_seen_X12_seenBy : GoodIn wsX12_seen wsX12_seenBy := goodIn_r _ [11, 12, 13, 14, 6, 15, 16, 17, 18, 19, 20, 21, 22, 23, 24, 25, 26, 27, 28, 29, 30, 31, 32, 33, 34, 35, 36, 37, 38, 39, 40, 41, 42, 43, 44, 45, 46, 47, 48, 49, 50, 51] (by decide +kernel) (by decide +kernel)
set_option maxRecDepth 20000 in
theorem gX12_seen_X12_seenBy : GoodIn wsX12_seen (wsV RX12 199 RX12 yX12_seenBy wsX12_seenBy) := goodIn_app (goodIn_of _ (by decide +kernel)) ggX12_seen_X12_seenBy
theorem dX12_seen_0 : decode cX12_seen 0 = .ok (.aload_n 0, 1) := by decide +kernel
theorem dX12_seen_1 : decode cX12_seen 1 = .ok (.iconst 0, 1) := by decide +kernel
theorem dX12_seen_2 : decode cX12_seen 2 = .ok (.putfield 62, 3) := by decide +kernel
theorem dX12_seen_5 : decode cX12_seen 5 = .ok (.iload_n 1, 1) := by decide +kernel
theorem dX12_seen_6 : decode cX12_seen 6 = .ok (.i2l, 1) := by decide +kernel
theorem dX12_seen_7 : decode cX12_seen 7 = .ok (.lconst 0, 1) := by decide +kernel
theorem dX12_seen_8 : decode cX12_seen 8 = .ok (.ldc2_w 197, 3) := by decide +kernel
theorem dX12_seen_11 : decode cX12_seen 11 = .ok (.invokestatic 68, 3) := by decide +kernel
theorem dX12_seen_14 : decode cX12_seen 14 = .ok (.ifCond .eq 24, 3) := by decide +kernel
theorem dX12_seen_17 : decode cX12_seen 17 = .ok (.iload_n 2, 1) := by decide +kernel
theorem dX12_seen_18 : decode cX12_seen 18 = .ok (.i2l, 1) := by decide +kernel
theorem dX12_seen_19 : decode cX12_seen 19 = .ok (.lconst 0, 1) := by decide +kernel
theorem dX12_seen_20 : decode cX12_seen 20 = .ok (.ldc2_w 179, 3) := by decide +kernel
theorem dX12_seen_23 : decode cX12_seen 23 = .ok (.invokestatic 68, 3) := by decide +kernel
theorem dX12_seen_26 : decode cX12_seen 26 = .ok (.ifCond .eq 12, 3) := by decide +kernel
theorem dX12_seen_29 : decode cX12_seen 29 = .ok (.aload_n 0, 1) := by decide +kernel
theorem dX12_seen_30 : decode cX12_seen 30 = .ok (.iload_n 1, 1) := by decide +kernel
theorem dX12_seen_31 : decode cX12_seen 31 = .ok (.iload_n 2, 1) := by decide +kernel
theorem dX12_seen_32 : decode cX12_seen 32 = .ok (.invokevirtual 199, 3) := by decide +kernel
theorem dX12_seen_35 : decode cX12_seen 35 = .ok (.goto 4, 3) := by decide +kernel
theorem dX12_seen_38 : decode cX12_seen 38 = .ok (.iconst (-1), 1) := by decide +kernel
theorem dX12_seen_39 : decode cX12_seen 39 = .ok (.ireturn, 1) := by decide +kernel
theorem dX12_ones_0 : decode cX12_ones 0 = .ok (.iconst 0, 1) := by decide +kernel
theorem dX12_ones_1 : decode cX12_ones 1 = .ok (.istore_n 1, 1) := by decide +kernel
theorem dX12_ones_2 : decode cX12_ones 2 = .ok (.iconst 0, 1) := by decide +kernel
theorem dX12_ones_3 : decode cX12_ones 3 = .ok (.istore_n 2, 1) := by decide +kernel
theorem dX12_ones_4 : decode cX12_ones 4 = .ok (.iload_n 2, 1) := by decide +kernel
theorem dX12_ones_5 : decode cX12_ones 5 = .ok (.bipush 10, 2) := by decide +kernel
theorem dX12_ones_7 : decode cX12_ones 7 = .ok (.if_icmp .ge 17, 3) := by decide +kernel
theorem dX12_ones_10 : decode cX12_ones 10 = .ok (.iload_n 1, 1) := by decide +kernel
theorem dX12_ones_11 : decode cX12_ones 11 = .ok (.iload_n 0, 1) := by decide +kernel
theorem dX12_ones_12 : decode cX12_ones 12 = .ok (.iload_n 2, 1) := by decide +kernel
theorem dX12_ones_13 : decode cX12_ones 13 = .ok (.ishr, 1) := by decide +kernel
theorem dX12_ones_14 : decode cX12_ones 14 = .ok (.iconst 1, 1) := by decide +kernel
theorem dX12_ones_15 : decode cX12_ones 15 = .ok (.iand, 1) := by decide +kernel
theorem dX12_ones_16 : decode cX12_ones 16 = .ok (.iadd, 1) := by decide +kernel
theorem dX12_ones_17 : decode cX12_ones 17 = .ok (.istore_n 1, 1) := by decide +kernel
theorem dX12_ones_18 : decode cX12_ones 18 = .ok (.iinc 2 1, 3) := by decide +kernel
theorem dX12_ones_21 : decode cX12_ones 21 = .ok (.goto (-17), 3) := by decide +kernel
theorem dX12_ones_24 : decode cX12_ones 24 = .ok (.iload_n 1, 1) := by decide +kernel
theorem dX12_ones_25 : decode cX12_ones 25 = .ok (.ireturn, 1) := by decide +kernel
set_option maxRecDepth 20000 in
theorem ggX12_holes_X12_in : GoodIn wsX12_holes wsX12_in := goodIn_r _ [7] (by decide +kernel) (by decide +kernel)
set_option maxRecDepth 20000 in
theorem gX12_holes_X12_in : GoodIn wsX12_holes (va_wsS RX12 68 yX12_in wsX12_in) := goodIn_app (goodIn_of _ (by decide +kernel)) ggX12_holes_X12_in
set_option maxRecDepth 20000 in
theorem ggX12_holes_X12_seenBy : GoodIn wsX12_holes wsX12_seenBy := goodIn_r _ [11, 12, 13, 14, 6, 15, 16, 17, 18, 19, 20, 21, 22, 26, 27, 28, 29, 30, 31, 32, 33, 34, 35, 36, 37, 38, 39, 40, 41, 42, 43, 44, 45, 46, 47, 48, 49, 50, 51, 52, 53, 54] (by decide +kernel) (by decide +kernel)
set_option maxRecDepth 20000 in
theorem gX12_holes_X12_seenBy : GoodIn wsX12_holes (wsV RX12 199 RX12 yX12_seenBy wsX12_seenBy) := goodIn_app (goodIn_of _ (by decide +kernel)) ggX12_holes_X12_seenBy
set_option maxRecDepth 20000 in
theorem ggX12_holes_X12_ones : GoodIn wsX12_holes wsX12_ones := goodIn_r _ [25] (by decide +kernel) (by decide +kernel)
set_option maxRecDepth 20000 in
theorem gX12_holes_X12_ones : GoodIn wsX12_holes (va_wsS RX12 204 yX12_ones wsX12_ones) := goodIn_app (goodIn_of _ (by decide +kernel)) ggX12_holes_X12_ones
theorem dX12_holes_0 : decode cX12_holes 0 = .ok (.aload_n 0, 1) := by decide +kernel
theorem dX12_holes_1 : decode cX12_holes 1 = .ok (.iconst 0, 1) := by decide +kernel
theorem dX12_holes_2 : decode cX12_holes 2 = .ok (.putfield 62, 3) := by decide +kernel
theorem dX12_holes_5 : decode cX12_holes 5 = .ok (.iload_n 1, 1) := by decide +kernel
theorem dX12_holes_6 : decode cX12_holes 6 = .ok (.i2l, 1) := by decide +kernel
theorem dX12_holes_7 : decode cX12_holes 7 = .ok (.lconst 0, 1) := by decide +kernel
theorem dX12_holes_8 : decode cX12_holes 8 = .ok (.ldc2_w 202, 3) := by decide +kernel
theorem dX12_holes_11 : decode cX12_holes 11 = .ok (.invokestatic 68, 3) := by decide +kernel
theorem dX12_holes_14 : decode cX12_holes 14 = .ok (.ifCond .eq 15, 3) := by decide +kernel
theorem dX12_holes_17 : decode cX12_holes 17 = .ok (.iload_n 2, 1) := by decide +kernel
theorem dX12_holes_18 : decode cX12_holes 18 = .ok (.i2l, 1) := by decide +kernel
theorem dX12_holes_19 : decode cX12_holes 19 = .ok (.lconst 0, 1) := by decide +kernel
theorem dX12_holes_20 : decode cX12_holes 20 = .ok (.ldc2_w 179, 3) := by decide +kernel
theorem dX12_holes_23 : decode cX12_holes 23 = .ok (.invokestatic 68, 3) := by decide +kernel
theorem dX12_holes_26 : decode cX12_holes 26 = .ok (.ifCond .ne 5, 3) := by decide +kernel
theorem dX12_holes_29 : decode cX12_holes 29 = .ok (.iconst (-1), 1) := by decide +kernel
theorem dX12_holes_30 : decode cX12_holes 30 = .ok (.ireturn, 1) := by decide +kernel
theorem dX12_holes_31 : decode cX12_holes 31 = .ok (.bipush (-4), 2) := by decide +kernel
theorem dX12_holes_33 : decode cX12_holes 33 = .ok (.istore_n 3, 1) := by decide +kernel
theorem dX12_holes_34 : decode cX12_holes 34 = .ok (.iconst 0, 1) := by decide +kernel
theorem dX12_holes_35 : decode cX12_holes 35 = .ok (.istore 4, 2) := by decide +kernel
theorem dX12_holes_37 : decode cX12_holes 37 = .ok (.iload 4, 2) := by decide +kernel
theorem dX12_holes_39 : decode cX12_holes 39 = .ok (.bipush 64, 2) := by decide +kernel
theorem dX12_holes_41 : decode cX12_holes 41 = .ok (.if_icmp .ge 58, 3) := by decide +kernel
theorem dX12_holes_44 : decode cX12_holes 44 = .ok (.iload_n 1, 1) := by decide +kernel
theorem dX12_holes_45 : decode cX12_holes 45 = .ok (.aload_n 0, 1) := by decide +kernel
theorem dX12_holes_46 : decode cX12_holes 46 = .ok (.iload 4, 2) := by decide +kernel
theorem dX12_holes_48 : decode cX12_holes 48 = .ok (.iload_n 2, 1) := by decide +kernel
theorem dX12_holes_49 : decode cX12_holes 49 = .ok (.invokevirtual 199, 3) := by decide +kernel
theorem dX12_holes_52 : decode cX12_holes 52 = .ok (.iconst (-1), 1) := by decide +kernel
theorem dX12_holes_53 : decode cX12_holes 53 = .ok (.ixor, 1) := by decide +kernel
theorem dX12_holes_54 : decode cX12_holes 54 = .ok (.iand, 1) := by decide +kernel
theorem dX12_holes_55 : decode cX12_holes 55 = .ok (.ifCond .ne 7, 3) := by decide +kernel
theorem dX12_holes_58 : decode cX12_holes 58 = .ok (.iconst 1, 1) := by decide +kernel
theorem dX12_holes_59 : decode cX12_holes 59 = .ok (.goto 4, 3) := by decide +kernel
theorem dX12_holes_62 : decode cX12_holes 62 = .ok (.iconst 0, 1) := by decide +kernel
theorem dX12_holes_63 : decode cX12_holes 63 = .ok (.istore 5, 2) := by decide +kernel
theorem dX12_holes_65 : decode cX12_holes 65 = .ok (.iload 5, 2) := by decide +kernel
theorem dX12_holes_67 : decode cX12_holes 67 = .ok (.ifCond .eq 24, 3) := by decide +kernel
theorem dX12_holes_70 : decode cX12_holes 70 = .ok (.iload_n 3, 1) := by decide +kernel
theorem dX12_holes_71 : decode cX12_holes 71 = .ok (.ifCond .lt 15, 3) := by decide +kernel
theorem dX12_holes_74 : decode cX12_holes 74 = .ok (.iload 4, 2) := by decide +kernel
theorem dX12_holes_76 : decode cX12_holes 76 = .ok (.invokestatic 204, 3) := by decide +kernel
theorem dX12_holes_79 : decode cX12_holes 79 = .ok (.iload_n 3, 1) := by decide +kernel
theorem dX12_holes_80 : decode cX12_holes 80 = .ok (.invokestatic 204, 3) := by decide +kernel
theorem dX12_holes_83 : decode cX12_holes 83 = .ok (.if_icmp .ge 8, 3) := by decide +kernel
theorem dX12_holes_86 : decode cX12_holes 86 = .ok (.iload 4, 2) := by decide +kernel
theorem dX12_holes_88 : decode cX12_holes 88 = .ok (.goto 4, 3) := by decide +kernel
theorem dX12_holes_91 : decode cX12_holes 91 = .ok (.iload_n 3, 1) := by decide +kernel
theorem dX12_holes_92 : decode cX12_holes 92 = .ok (.istore_n 3, 1) := by decide +kernel
theorem dX12_holes_93 : decode cX12_holes 93 = .ok (.iinc 4 1, 3) := by decide +kernel
theorem dX12_holes_96 : decode cX12_holes 96 = .ok (.goto (-59), 3) := by decide +kernel
theorem dX12_holes_99 : decode cX12_holes 99 = .ok (.iload_n 3, 1) := by decide +kernel
theorem dX12_holes_100 : decode cX12_holes 100 = .ok (.ireturn, 1) := by decide +kernel
set_option maxRecDepth 20000 in
theorem ggX12_lastsOf_X12_meltsOf : GoodIn wsX12_lastsOf wsX12_meltsOf := goodIn_r _ [8] (by decide +kernel) (by decide +kernel)
set_option maxRecDepth 20000 in
theorem gX12_lastsOf_X12_meltsOf : GoodIn wsX12_lastsOf (va_wsS RX12 79 yX12_meltsOf wsX12_meltsOf) := goodIn_app (goodIn_of _ (by decide +kernel)) ggX12_lastsOf_X12_meltsOf
theorem dX12_lastsOf_0 : decode cX12_lastsOf 0 = .ok (.iconst 0, 1) := by decide +kernel
theorem dX12_lastsOf_1 : decode cX12_lastsOf 1 = .ok (.istore_n 3, 1) := by decide +kernel
theorem dX12_lastsOf_2 : decode cX12_lastsOf 2 = .ok (.iload_n 2, 1) := by decide +kernel
theorem dX12_lastsOf_3 : decode cX12_lastsOf 3 = .ok (.istore 4, 2) := by decide +kernel
theorem dX12_lastsOf_5 : decode cX12_lastsOf 5 = .ok (.iload 4, 2) := by decide +kernel
theorem dX12_lastsOf_7 : decode cX12_lastsOf 7 = .ok (.aload_n 0, 1) := by decide +kernel
theorem dX12_lastsOf_8 : decode cX12_lastsOf 8 = .ok (.getfield 7, 3) := by decide +kernel
theorem dX12_lastsOf_11 : decode cX12_lastsOf 11 = .ok (.iload_n 1, 1) := by decide +kernel
theorem dX12_lastsOf_12 : decode cX12_lastsOf 12 = .ok (.iaload, 1) := by decide +kernel
theorem dX12_lastsOf_13 : decode cX12_lastsOf 13 = .ok (.if_icmp .ge 55, 3) := by decide +kernel
theorem dX12_lastsOf_16 : decode cX12_lastsOf 16 = .ok (.bipush 8, 2) := by decide +kernel
theorem dX12_lastsOf_18 : decode cX12_lastsOf 18 = .ok (.iload_n 1, 1) := by decide +kernel
theorem dX12_lastsOf_19 : decode cX12_lastsOf 19 = .ok (.imul, 1) := by decide +kernel
theorem dX12_lastsOf_20 : decode cX12_lastsOf 20 = .ok (.iload 4, 2) := by decide +kernel
theorem dX12_lastsOf_22 : decode cX12_lastsOf 22 = .ok (.iadd, 1) := by decide +kernel
theorem dX12_lastsOf_23 : decode cX12_lastsOf 23 = .ok (.istore 5, 2) := by decide +kernel
theorem dX12_lastsOf_25 : decode cX12_lastsOf 25 = .ok (.aload_n 0, 1) := by decide +kernel
theorem dX12_lastsOf_26 : decode cX12_lastsOf 26 = .ok (.getfield 13, 3) := by decide +kernel
theorem dX12_lastsOf_29 : decode cX12_lastsOf 29 = .ok (.iload 5, 2) := by decide +kernel
theorem dX12_lastsOf_31 : decode cX12_lastsOf 31 = .ok (.iaload, 1) := by decide +kernel
theorem dX12_lastsOf_32 : decode cX12_lastsOf 32 = .ok (.aload_n 0, 1) := by decide +kernel
theorem dX12_lastsOf_33 : decode cX12_lastsOf 33 = .ok (.getfield 16, 3) := by decide +kernel
theorem dX12_lastsOf_36 : decode cX12_lastsOf 36 = .ok (.iload 5, 2) := by decide +kernel
theorem dX12_lastsOf_38 : decode cX12_lastsOf 38 = .ok (.iaload, 1) := by decide +kernel
theorem dX12_lastsOf_39 : decode cX12_lastsOf 39 = .ok (.invokestatic 79, 3) := by decide +kernel
theorem dX12_lastsOf_42 : decode cX12_lastsOf 42 = .ok (.istore 6, 2) := by decide +kernel
theorem dX12_lastsOf_44 : decode cX12_lastsOf 44 = .ok (.iload_n 3, 1) := by decide +kernel
theorem dX12_lastsOf_45 : decode cX12_lastsOf 45 = .ok (.aload_n 0, 1) := by decide +kernel
theorem dX12_lastsOf_46 : decode cX12_lastsOf 46 = .ok (.getfield 22, 3) := by decide +kernel
theorem dX12_lastsOf_49 : decode cX12_lastsOf 49 = .ok (.iload 5, 2) := by decide +kernel
theorem dX12_lastsOf_51 : decode cX12_lastsOf 51 = .ok (.iaload, 1) := by decide +kernel
theorem dX12_lastsOf_52 : decode cX12_lastsOf 52 = .ok (.iload 6, 2) := by decide +kernel
theorem dX12_lastsOf_54 : decode cX12_lastsOf 54 = .ok (.iadd, 1) := by decide +kernel
theorem dX12_lastsOf_55 : decode cX12_lastsOf 55 = .ok (.iconst 1, 1) := by decide +kernel
theorem dX12_lastsOf_56 : decode cX12_lastsOf 56 = .ok (.isub, 1) := by decide +kernel
theorem dX12_lastsOf_57 : decode cX12_lastsOf 57 = .ok (.iload 6, 2) := by decide +kernel
theorem dX12_lastsOf_59 : decode cX12_lastsOf 59 = .ok (.idiv, 1) := by decide +kernel
theorem dX12_lastsOf_60 : decode cX12_lastsOf 60 = .ok (.iadd, 1) := by decide +kernel
theorem dX12_lastsOf_61 : decode cX12_lastsOf 61 = .ok (.istore_n 3, 1) := by decide +kernel
theorem dX12_lastsOf_62 : decode cX12_lastsOf 62 = .ok (.iinc 4 1, 3) := by decide +kernel
theorem dX12_lastsOf_65 : decode cX12_lastsOf 65 = .ok (.goto (-60), 3) := by decide +kernel
theorem dX12_lastsOf_68 : decode cX12_lastsOf 68 = .ok (.iload_n 3, 1) := by decide +kernel
theorem dX12_lastsOf_69 : decode cX12_lastsOf 69 = .ok (.ireturn, 1) := by decide +kernel
set_option maxRecDepth 20000 in
theorem ggX12_lasts_X12_isLayer : GoodIn wsX12_lasts wsX12_isLayer := goodIn_r _ [6, 7, 8, 9, 5, 10, 11, 12, 13, 14, 25, 26, 27, 28, 29, 30, 31, 32, 33, 34, 35, 36, 37, 38, 39, 40, 41, 42, 43, 44, 45, 46, 47, 48, 49, 50, 51, 52, 53] (by decide +kernel) (by decide +kernel)
set_option maxRecDepth 20000 in
theorem gX12_lasts_X12_isLayer : GoodIn wsX12_lasts (wsV RX12 187 RX12 yX12_isLayer wsX12_isLayer) := goodIn_app (goodIn_of _ (by decide +kernel)) ggX12_lasts_X12_isLayer
set_option maxRecDepth 20000 in
theorem ggX12_lasts_X12_lastsOf : GoodIn wsX12_lasts wsX12_lastsOf := goodIn_r _ [18, 7, 19, 20, 21, 22, 23, 5, 24, 25, 26, 27, 28, 29, 30, 31, 32, 33, 34, 35, 36, 37, 38, 39, 40, 41, 42, 43, 44, 45, 46, 47, 48, 49, 50, 51, 52, 53] (by decide +kernel) (by decide +kernel)
set_option maxRecDepth 20000 in
theorem gX12_lasts_X12_lastsOf : GoodIn wsX12_lasts (wsV RX12 207 RX12 yX12_lastsOf wsX12_lastsOf) := goodIn_app (goodIn_of _ (by decide +kernel)) ggX12_lasts_X12_lastsOf
theorem dX12_lasts_0 : decode cX12_lasts 0 = .ok (.aload_n 0, 1) := by decide +kernel
theorem dX12_lasts_1 : decode cX12_lasts 1 = .ok (.iconst 0, 1) := by decide +kernel
theorem dX12_lasts_2 : decode cX12_lasts 2 = .ok (.putfield 62, 3) := by decide +kernel
theorem dX12_lasts_5 : decode cX12_lasts 5 = .ok (.aload_n 0, 1) := by decide +kernel
theorem dX12_lasts_6 : decode cX12_lasts 6 = .ok (.iload_n 1, 1) := by decide +kernel
theorem dX12_lasts_7 : decode cX12_lasts 7 = .ok (.iload_n 2, 1) := by decide +kernel
theorem dX12_lasts_8 : decode cX12_lasts 8 = .ok (.invokevirtual 187, 3) := by decide +kernel
theorem dX12_lasts_11 : decode cX12_lasts 11 = .ok (.ifCond .eq 12, 3) := by decide +kernel
theorem dX12_lasts_14 : decode cX12_lasts 14 = .ok (.aload_n 0, 1) := by decide +kernel
theorem dX12_lasts_15 : decode cX12_lasts 15 = .ok (.iload_n 1, 1) := by decide +kernel
theorem dX12_lasts_16 : decode cX12_lasts 16 = .ok (.iload_n 2, 1) := by decide +kernel
theorem dX12_lasts_17 : decode cX12_lasts 17 = .ok (.invokevirtual 207, 3) := by decide +kernel
theorem dX12_lasts_20 : decode cX12_lasts 20 = .ok (.goto 4, 3) := by decide +kernel
theorem dX12_lasts_23 : decode cX12_lasts 23 = .ok (.iconst (-1), 1) := by decide +kernel
theorem dX12_lasts_24 : decode cX12_lasts 24 = .ok (.ireturn, 1) := by decide +kernel
set_option maxRecDepth 20000 in
theorem ggX12_frost_X12_in : GoodIn wsX12_frost wsX12_in := goodIn_r _ [8] (by decide +kernel) (by decide +kernel)
set_option maxRecDepth 20000 in
theorem gX12_frost_X12_in : GoodIn wsX12_frost (va_wsS RX12 68 yX12_in wsX12_in) := goodIn_app (goodIn_of _ (by decide +kernel)) ggX12_frost_X12_in
set_option maxRecDepth 20000 in
theorem ggX12_frost_X12_thickOf : GoodIn wsX12_frost wsX12_thickOf := goodIn_r _ [11] (by decide +kernel) (by decide +kernel)
set_option maxRecDepth 20000 in
theorem gX12_frost_X12_thickOf : GoodIn wsX12_frost (va_wsS RX12 75 yX12_thickOf wsX12_thickOf) := goodIn_app (goodIn_of _ (by decide +kernel)) ggX12_frost_X12_thickOf
set_option maxRecDepth 20000 in
theorem ggX12_frost_X12_meltsOf : GoodIn wsX12_frost wsX12_meltsOf := goodIn_r _ [14] (by decide +kernel) (by decide +kernel)
set_option maxRecDepth 20000 in
theorem gX12_frost_X12_meltsOf : GoodIn wsX12_frost (va_wsS RX12 79 yX12_meltsOf wsX12_meltsOf) := goodIn_app (goodIn_of _ (by decide +kernel)) ggX12_frost_X12_meltsOf
theorem dX12_frost_0 : decode cX12_frost 0 = .ok (.aload_n 0, 1) := by decide +kernel
theorem dX12_frost_1 : decode cX12_frost 1 = .ok (.iconst 0, 1) := by decide +kernel
theorem dX12_frost_2 : decode cX12_frost 2 = .ok (.putfield 62, 3) := by decide +kernel
theorem dX12_frost_5 : decode cX12_frost 5 = .ok (.iload_n 1, 1) := by decide +kernel
theorem dX12_frost_6 : decode cX12_frost 6 = .ok (.i2l, 1) := by decide +kernel
theorem dX12_frost_7 : decode cX12_frost 7 = .ok (.lconst 0, 1) := by decide +kernel
theorem dX12_frost_8 : decode cX12_frost 8 = .ok (.ldc2_w 169, 3) := by decide +kernel
theorem dX12_frost_11 : decode cX12_frost 11 = .ok (.invokestatic 68, 3) := by decide +kernel
theorem dX12_frost_14 : decode cX12_frost 14 = .ok (.ifCond .eq 27, 3) := by decide +kernel
theorem dX12_frost_17 : decode cX12_frost 17 = .ok (.iload_n 2, 1) := by decide +kernel
theorem dX12_frost_18 : decode cX12_frost 18 = .ok (.i2l, 1) := by decide +kernel
theorem dX12_frost_19 : decode cX12_frost 19 = .ok (.lconst 0, 1) := by decide +kernel
theorem dX12_frost_20 : decode cX12_frost 20 = .ok (.ldc2_w 174, 3) := by decide +kernel
theorem dX12_frost_23 : decode cX12_frost 23 = .ok (.invokestatic 68, 3) := by decide +kernel
theorem dX12_frost_26 : decode cX12_frost 26 = .ok (.ifCond .eq 15, 3) := by decide +kernel
theorem dX12_frost_29 : decode cX12_frost 29 = .ok (.iload_n 3, 1) := by decide +kernel
theorem dX12_frost_30 : decode cX12_frost 30 = .ok (.i2l, 1) := by decide +kernel
theorem dX12_frost_31 : decode cX12_frost 31 = .ok (.lconst 1, 1) := by decide +kernel
theorem dX12_frost_32 : decode cX12_frost 32 = .ok (.ldc2_w 179, 3) := by decide +kernel
theorem dX12_frost_35 : decode cX12_frost 35 = .ok (.invokestatic 68, 3) := by decide +kernel
theorem dX12_frost_38 : decode cX12_frost 38 = .ok (.ifCond .ne 5, 3) := by decide +kernel
theorem dX12_frost_41 : decode cX12_frost 41 = .ok (.iconst (-1), 1) := by decide +kernel
theorem dX12_frost_42 : decode cX12_frost 42 = .ok (.ireturn, 1) := by decide +kernel
theorem dX12_frost_43 : decode cX12_frost 43 = .ok (.iconst 1, 1) := by decide +kernel
theorem dX12_frost_44 : decode cX12_frost 44 = .ok (.istore 4, 2) := by decide +kernel
theorem dX12_frost_46 : decode cX12_frost 46 = .ok (.iload 4, 2) := by decide +kernel
theorem dX12_frost_48 : decode cX12_frost 48 = .ok (.bipush 10, 2) := by decide +kernel
theorem dX12_frost_50 : decode cX12_frost 50 = .ok (.if_icmp .ge 29, 3) := by decide +kernel
theorem dX12_frost_53 : decode cX12_frost 53 = .ok (.iload_n 1, 1) := by decide +kernel
theorem dX12_frost_54 : decode cX12_frost 54 = .ok (.iload_n 2, 1) := by decide +kernel
theorem dX12_frost_55 : decode cX12_frost 55 = .ok (.iload 4, 2) := by decide +kernel
theorem dX12_frost_57 : decode cX12_frost 57 = .ok (.invokestatic 75, 3) := by decide +kernel
theorem dX12_frost_60 : decode cX12_frost 60 = .ok (.iload_n 3, 1) := by decide +kernel
theorem dX12_frost_61 : decode cX12_frost 61 = .ok (.iload_n 1, 1) := by decide +kernel
theorem dX12_frost_62 : decode cX12_frost 62 = .ok (.iload_n 2, 1) := by decide +kernel
theorem dX12_frost_63 : decode cX12_frost 63 = .ok (.invokestatic 79, 3) := by decide +kernel
theorem dX12_frost_66 : decode cX12_frost 66 = .ok (.imul, 1) := by decide +kernel
theorem dX12_frost_67 : decode cX12_frost 67 = .ok (.if_icmp .le 6, 3) := by decide +kernel
theorem dX12_frost_70 : decode cX12_frost 70 = .ok (.iload 4, 2) := by decide +kernel
theorem dX12_frost_72 : decode cX12_frost 72 = .ok (.ireturn, 1) := by decide +kernel
theorem dX12_frost_73 : decode cX12_frost 73 = .ok (.iinc 4 1, 3) := by decide +kernel
theorem dX12_frost_76 : decode cX12_frost 76 = .ok (.goto (-30), 3) := by decide +kernel
theorem dX12_frost_79 : decode cX12_frost 79 = .ok (.bipush (-4), 2) := by decide +kernel
theorem dX12_frost_81 : decode cX12_frost 81 = .ok (.ireturn, 1) := by decide +kernel
set_option maxRecDepth 20000 in
theorem ggX12_where_X12_in : GoodIn wsX12_where wsX12_in := goodIn_r _ [9] (by decide +kernel) (by decide +kernel)
set_option maxRecDepth 20000 in
theorem gX12_where_X12_in : GoodIn wsX12_where (va_wsS RX12 68 yX12_in wsX12_in) := goodIn_app (goodIn_of _ (by decide +kernel)) ggX12_where_X12_in
set_option maxRecDepth 20000 in
theorem ggX12_where_X12_lastsOf : GoodIn wsX12_where wsX12_lastsOf := goodIn_r _ [13, 4, 14, 5, 15, 16, 17, 8, 18, 19, 20, 21, 22, 23, 24, 25, 26, 27, 28, 29, 30, 31, 32, 33, 34, 35, 36, 37, 38, 39, 40, 41, 42, 43, 44, 45, 46, 47] (by decide +kernel) (by decide +kernel)
set_option maxRecDepth 20000 in
theorem gX12_where_X12_lastsOf : GoodIn wsX12_where (wsV RX12 207 RX12 yX12_lastsOf wsX12_lastsOf) := goodIn_app (goodIn_of _ (by decide +kernel)) ggX12_where_X12_lastsOf
theorem dX12_where_0 : decode cX12_where 0 = .ok (.aload_n 0, 1) := by decide +kernel
theorem dX12_where_1 : decode cX12_where 1 = .ok (.iconst 0, 1) := by decide +kernel
theorem dX12_where_2 : decode cX12_where 2 = .ok (.putfield 62, 3) := by decide +kernel
theorem dX12_where_5 : decode cX12_where 5 = .ok (.iload_n 1, 1) := by decide +kernel
theorem dX12_where_6 : decode cX12_where 6 = .ok (.i2l, 1) := by decide +kernel
theorem dX12_where_7 : decode cX12_where 7 = .ok (.lconst 0, 1) := by decide +kernel
theorem dX12_where_8 : decode cX12_where 8 = .ok (.ldc2_w 174, 3) := by decide +kernel
theorem dX12_where_11 : decode cX12_where 11 = .ok (.invokestatic 68, 3) := by decide +kernel
theorem dX12_where_14 : decode cX12_where 14 = .ok (.ifCond .eq 15, 3) := by decide +kernel
theorem dX12_where_17 : decode cX12_where 17 = .ok (.iload_n 2, 1) := by decide +kernel
theorem dX12_where_18 : decode cX12_where 18 = .ok (.i2l, 1) := by decide +kernel
theorem dX12_where_19 : decode cX12_where 19 = .ok (.lconst 0, 1) := by decide +kernel
theorem dX12_where_20 : decode cX12_where 20 = .ok (.ldc2_w 179, 3) := by decide +kernel
theorem dX12_where_23 : decode cX12_where 23 = .ok (.invokestatic 68, 3) := by decide +kernel
theorem dX12_where_26 : decode cX12_where 26 = .ok (.ifCond .ne 5, 3) := by decide +kernel
theorem dX12_where_29 : decode cX12_where 29 = .ok (.iconst (-1), 1) := by decide +kernel
theorem dX12_where_30 : decode cX12_where 30 = .ok (.ireturn, 1) := by decide +kernel
theorem dX12_where_31 : decode cX12_where 31 = .ok (.iconst 0, 1) := by decide +kernel
theorem dX12_where_32 : decode cX12_where 32 = .ok (.istore_n 3, 1) := by decide +kernel
theorem dX12_where_33 : decode cX12_where 33 = .ok (.iconst 0, 1) := by decide +kernel
theorem dX12_where_34 : decode cX12_where 34 = .ok (.istore 4, 2) := by decide +kernel
theorem dX12_where_36 : decode cX12_where 36 = .ok (.iload 4, 2) := by decide +kernel
theorem dX12_where_38 : decode cX12_where 38 = .ok (.bipush 6, 2) := by decide +kernel
theorem dX12_where_40 : decode cX12_where 40 = .ok (.if_icmp .ge 70, 3) := by decide +kernel
theorem dX12_where_43 : decode cX12_where 43 = .ok (.iconst 0, 1) := by decide +kernel
theorem dX12_where_44 : decode cX12_where 44 = .ok (.istore 5, 2) := by decide +kernel
theorem dX12_where_46 : decode cX12_where 46 = .ok (.iload 5, 2) := by decide +kernel
theorem dX12_where_48 : decode cX12_where 48 = .ok (.aload_n 0, 1) := by decide +kernel
theorem dX12_where_49 : decode cX12_where 49 = .ok (.getfield 7, 3) := by decide +kernel
theorem dX12_where_52 : decode cX12_where 52 = .ok (.iload 4, 2) := by decide +kernel
theorem dX12_where_54 : decode cX12_where 54 = .ok (.iaload, 1) := by decide +kernel
theorem dX12_where_55 : decode cX12_where 55 = .ok (.if_icmp .ge 49, 3) := by decide +kernel
theorem dX12_where_58 : decode cX12_where 58 = .ok (.iload_n 3, 1) := by decide +kernel
theorem dX12_where_59 : decode cX12_where 59 = .ok (.aload_n 0, 1) := by decide +kernel
theorem dX12_where_60 : decode cX12_where 60 = .ok (.getfield 16, 3) := by decide +kernel
theorem dX12_where_63 : decode cX12_where 63 = .ok (.bipush 8, 2) := by decide +kernel
theorem dX12_where_65 : decode cX12_where 65 = .ok (.iload 4, 2) := by decide +kernel
theorem dX12_where_67 : decode cX12_where 67 = .ok (.imul, 1) := by decide +kernel
theorem dX12_where_68 : decode cX12_where 68 = .ok (.iload 5, 2) := by decide +kernel
theorem dX12_where_70 : decode cX12_where 70 = .ok (.iadd, 1) := by decide +kernel
theorem dX12_where_71 : decode cX12_where 71 = .ok (.iaload, 1) := by decide +kernel
theorem dX12_where_72 : decode cX12_where 72 = .ok (.iload_n 1, 1) := by decide +kernel
theorem dX12_where_73 : decode cX12_where 73 = .ok (.if_icmp .ne 22, 3) := by decide +kernel
theorem dX12_where_76 : decode cX12_where 76 = .ok (.aload_n 0, 1) := by decide +kernel
theorem dX12_where_77 : decode cX12_where 77 = .ok (.iload 4, 2) := by decide +kernel
theorem dX12_where_79 : decode cX12_where 79 = .ok (.iload 5, 2) := by decide +kernel
theorem dX12_where_81 : decode cX12_where 81 = .ok (.invokevirtual 207, 3) := by decide +kernel
theorem dX12_where_84 : decode cX12_where 84 = .ok (.iload_n 2, 1) := by decide +kernel
theorem dX12_where_85 : decode cX12_where 85 = .ok (.if_icmp .le 10, 3) := by decide +kernel
theorem dX12_where_88 : decode cX12_where 88 = .ok (.iconst 1, 1) := by decide +kernel
theorem dX12_where_89 : decode cX12_where 89 = .ok (.iload 4, 2) := by decide +kernel
theorem dX12_where_91 : decode cX12_where 91 = .ok (.ishl, 1) := by decide +kernel
theorem dX12_where_92 : decode cX12_where 92 = .ok (.goto 4, 3) := by decide +kernel
theorem dX12_where_95 : decode cX12_where 95 = .ok (.iconst 0, 1) := by decide +kernel
theorem dX12_where_96 : decode cX12_where 96 = .ok (.ior, 1) := by decide +kernel
theorem dX12_where_97 : decode cX12_where 97 = .ok (.istore_n 3, 1) := by decide +kernel
theorem dX12_where_98 : decode cX12_where 98 = .ok (.iinc 5 1, 3) := by decide +kernel
theorem dX12_where_101 : decode cX12_where 101 = .ok (.goto (-55), 3) := by decide +kernel
theorem dX12_where_104 : decode cX12_where 104 = .ok (.iinc 4 1, 3) := by decide +kernel
theorem dX12_where_107 : decode cX12_where 107 = .ok (.goto (-71), 3) := by decide +kernel
theorem dX12_where_110 : decode cX12_where 110 = .ok (.iload_n 3, 1) := by decide +kernel
theorem dX12_where_111 : decode cX12_where 111 = .ok (.ireturn, 1) := by decide +kernel
theorem dX12_lowestOf_0 : decode cX12_lowestOf 0 = .ok (.iconst 0, 1) := by decide +kernel
theorem dX12_lowestOf_1 : decode cX12_lowestOf 1 = .ok (.istore_n 3, 1) := by decide +kernel
theorem dX12_lowestOf_2 : decode cX12_lowestOf 2 = .ok (.aload_n 0, 1) := by decide +kernel
theorem dX12_lowestOf_3 : decode cX12_lowestOf 3 = .ok (.getfield 7, 3) := by decide +kernel
theorem dX12_lowestOf_6 : decode cX12_lowestOf 6 = .ok (.iload_n 1, 1) := by decide +kernel
theorem dX12_lowestOf_7 : decode cX12_lowestOf 7 = .ok (.iaload, 1) := by decide +kernel
theorem dX12_lowestOf_8 : decode cX12_lowestOf 8 = .ok (.iconst 1, 1) := by decide +kernel
theorem dX12_lowestOf_9 : decode cX12_lowestOf 9 = .ok (.isub, 1) := by decide +kernel
theorem dX12_lowestOf_10 : decode cX12_lowestOf 10 = .ok (.istore 4, 2) := by decide +kernel
theorem dX12_lowestOf_12 : decode cX12_lowestOf 12 = .ok (.iload 4, 2) := by decide +kernel
theorem dX12_lowestOf_14 : decode cX12_lowestOf 14 = .ok (.ifCond .lt 42, 3) := by decide +kernel
theorem dX12_lowestOf_17 : decode cX12_lowestOf 17 = .ok (.aload_n 0, 1) := by decide +kernel
theorem dX12_lowestOf_18 : decode cX12_lowestOf 18 = .ok (.getfield 19, 3) := by decide +kernel
theorem dX12_lowestOf_21 : decode cX12_lowestOf 21 = .ok (.bipush 8, 2) := by decide +kernel
theorem dX12_lowestOf_23 : decode cX12_lowestOf 23 = .ok (.iload_n 1, 1) := by decide +kernel
theorem dX12_lowestOf_24 : decode cX12_lowestOf 24 = .ok (.imul, 1) := by decide +kernel
theorem dX12_lowestOf_25 : decode cX12_lowestOf 25 = .ok (.iload 4, 2) := by decide +kernel
theorem dX12_lowestOf_27 : decode cX12_lowestOf 27 = .ok (.iadd, 1) := by decide +kernel
theorem dX12_lowestOf_28 : decode cX12_lowestOf 28 = .ok (.iaload, 1) := by decide +kernel
theorem dX12_lowestOf_29 : decode cX12_lowestOf 29 = .ok (.iload_n 2, 1) := by decide +kernel
theorem dX12_lowestOf_30 : decode cX12_lowestOf 30 = .ok (.if_icmp .ne 18, 3) := by decide +kernel
theorem dX12_lowestOf_33 : decode cX12_lowestOf 33 = .ok (.aload_n 0, 1) := by decide +kernel
theorem dX12_lowestOf_34 : decode cX12_lowestOf 34 = .ok (.getfield 22, 3) := by decide +kernel
theorem dX12_lowestOf_37 : decode cX12_lowestOf 37 = .ok (.bipush 8, 2) := by decide +kernel
theorem dX12_lowestOf_39 : decode cX12_lowestOf 39 = .ok (.iload_n 1, 1) := by decide +kernel
theorem dX12_lowestOf_40 : decode cX12_lowestOf 40 = .ok (.imul, 1) := by decide +kernel
theorem dX12_lowestOf_41 : decode cX12_lowestOf 41 = .ok (.iload 4, 2) := by decide +kernel
theorem dX12_lowestOf_43 : decode cX12_lowestOf 43 = .ok (.iadd, 1) := by decide +kernel
theorem dX12_lowestOf_44 : decode cX12_lowestOf 44 = .ok (.iaload, 1) := by decide +kernel
theorem dX12_lowestOf_45 : decode cX12_lowestOf 45 = .ok (.goto 4, 3) := by decide +kernel
theorem dX12_lowestOf_48 : decode cX12_lowestOf 48 = .ok (.iload_n 3, 1) := by decide +kernel
theorem dX12_lowestOf_49 : decode cX12_lowestOf 49 = .ok (.istore_n 3, 1) := by decide +kernel
theorem dX12_lowestOf_50 : decode cX12_lowestOf 50 = .ok (.iinc 4 (-1), 3) := by decide +kernel
theorem dX12_lowestOf_53 : decode cX12_lowestOf 53 = .ok (.goto (-41), 3) := by decide +kernel
theorem dX12_lowestOf_56 : decode cX12_lowestOf 56 = .ok (.iload_n 3, 1) := by decide +kernel
theorem dX12_lowestOf_57 : decode cX12_lowestOf 57 = .ok (.ireturn, 1) := by decide +kernel
set_option maxRecDepth 20000 in
theorem ggX12_isThin_X12_lowestOf : GoodIn wsX12_isThin wsX12_lowestOf := goodIn_r _ [7, 8, 1, 2, 9, 10, 11, 12, 13, 14, 15, 16, 17, 18, 19, 20, 21, 22, 23, 24, 25, 26, 27, 28, 29, 30, 31, 32, 33, 34, 35, 36, 37] (by decide +kernel) (by decide +kernel)
set_option maxRecDepth 20000 in
theorem gX12_isThin_X12_lowestOf : GoodIn wsX12_isThin (wsV RX12 210 RX12 yX12_lowestOf wsX12_lowestOf) := goodIn_app (goodIn_of _ (by decide +kernel)) ggX12_isThin_X12_lowestOf
theorem dX12_isThin_0 : decode cX12_isThin 0 = .ok (.aload_n 0, 1) := by decide +kernel
theorem dX12_isThin_1 : decode cX12_isThin 1 = .ok (.getfield 19, 3) := by decide +kernel
theorem dX12_isThin_4 : decode cX12_isThin 4 = .ok (.bipush 8, 2) := by decide +kernel
theorem dX12_isThin_6 : decode cX12_isThin 6 = .ok (.iload_n 1, 1) := by decide +kernel
theorem dX12_isThin_7 : decode cX12_isThin 7 = .ok (.imul, 1) := by decide +kernel
theorem dX12_isThin_8 : decode cX12_isThin 8 = .ok (.iload_n 2, 1) := by decide +kernel
theorem dX12_isThin_9 : decode cX12_isThin 9 = .ok (.iadd, 1) := by decide +kernel
theorem dX12_isThin_10 : decode cX12_isThin 10 = .ok (.iaload, 1) := by decide +kernel
theorem dX12_isThin_11 : decode cX12_isThin 11 = .ok (.istore_n 3, 1) := by decide +kernel
theorem dX12_isThin_12 : decode cX12_isThin 12 = .ok (.aload_n 0, 1) := by decide +kernel
theorem dX12_isThin_13 : decode cX12_isThin 13 = .ok (.getfield 22, 3) := by decide +kernel
theorem dX12_isThin_16 : decode cX12_isThin 16 = .ok (.bipush 8, 2) := by decide +kernel
theorem dX12_isThin_18 : decode cX12_isThin 18 = .ok (.iload_n 1, 1) := by decide +kernel
theorem dX12_isThin_19 : decode cX12_isThin 19 = .ok (.imul, 1) := by decide +kernel
theorem dX12_isThin_20 : decode cX12_isThin 20 = .ok (.iload_n 2, 1) := by decide +kernel
theorem dX12_isThin_21 : decode cX12_isThin 21 = .ok (.iadd, 1) := by decide +kernel
theorem dX12_isThin_22 : decode cX12_isThin 22 = .ok (.iaload, 1) := by decide +kernel
theorem dX12_isThin_23 : decode cX12_isThin 23 = .ok (.iconst 2, 1) := by decide +kernel
theorem dX12_isThin_24 : decode cX12_isThin 24 = .ok (.iadd, 1) := by decide +kernel
theorem dX12_isThin_25 : decode cX12_isThin 25 = .ok (.istore 4, 2) := by decide +kernel
theorem dX12_isThin_27 : decode cX12_isThin 27 = .ok (.aload_n 0, 1) := by decide +kernel
theorem dX12_isThin_28 : decode cX12_isThin 28 = .ok (.iload_n 1, 1) := by decide +kernel
theorem dX12_isThin_29 : decode cX12_isThin 29 = .ok (.iconst 1, 1) := by decide +kernel
theorem dX12_isThin_30 : decode cX12_isThin 30 = .ok (.iadd, 1) := by decide +kernel
theorem dX12_isThin_31 : decode cX12_isThin 31 = .ok (.bipush 6, 2) := by decide +kernel
theorem dX12_isThin_33 : decode cX12_isThin 33 = .ok (.irem, 1) := by decide +kernel
theorem dX12_isThin_34 : decode cX12_isThin 34 = .ok (.iload_n 3, 1) := by decide +kernel
theorem dX12_isThin_35 : decode cX12_isThin 35 = .ok (.invokevirtual 210, 3) := by decide +kernel
theorem dX12_isThin_38 : decode cX12_isThin 38 = .ok (.iload 4, 2) := by decide +kernel
theorem dX12_isThin_40 : decode cX12_isThin 40 = .ok (.if_icmp .lt 23, 3) := by decide +kernel
theorem dX12_isThin_43 : decode cX12_isThin 43 = .ok (.aload_n 0, 1) := by decide +kernel
theorem dX12_isThin_44 : decode cX12_isThin 44 = .ok (.iload_n 1, 1) := by decide +kernel
theorem dX12_isThin_45 : decode cX12_isThin 45 = .ok (.iconst 5, 1) := by decide +kernel
theorem dX12_isThin_46 : decode cX12_isThin 46 = .ok (.iadd, 1) := by decide +kernel
theorem dX12_isThin_47 : decode cX12_isThin 47 = .ok (.bipush 6, 2) := by decide +kernel
theorem dX12_isThin_49 : decode cX12_isThin 49 = .ok (.irem, 1) := by decide +kernel
theorem dX12_isThin_50 : decode cX12_isThin 50 = .ok (.iload_n 3, 1) := by decide +kernel
theorem dX12_isThin_51 : decode cX12_isThin 51 = .ok (.invokevirtual 210, 3) := by decide +kernel
theorem dX12_isThin_54 : decode cX12_isThin 54 = .ok (.iload 4, 2) := by decide +kernel
theorem dX12_isThin_56 : decode cX12_isThin 56 = .ok (.if_icmp .lt 7, 3) := by decide +kernel
theorem dX12_isThin_59 : decode cX12_isThin 59 = .ok (.iconst 1, 1) := by decide +kernel
theorem dX12_isThin_60 : decode cX12_isThin 60 = .ok (.goto 4, 3) := by decide +kernel
theorem dX12_isThin_63 : decode cX12_isThin 63 = .ok (.iconst 0, 1) := by decide +kernel
theorem dX12_isThin_64 : decode cX12_isThin 64 = .ok (.ireturn, 1) := by decide +kernel
set_option maxRecDepth 20000 in
theorem ggX12_thin_X12_in : GoodIn wsX12_thin wsX12_in := goodIn_r _ [6] (by decide +kernel) (by decide +kernel)
set_option maxRecDepth 20000 in
theorem gX12_thin_X12_in : GoodIn wsX12_thin (va_wsS RX12 68 yX12_in wsX12_in) := goodIn_app (goodIn_of _ (by decide +kernel)) ggX12_thin_X12_in
set_option maxRecDepth 20000 in
theorem ggX12_thin_X12_isThin : GoodIn wsX12_thin wsX12_isThin := goodIn_r _ [10, 11, 12, 13, 14, 15, 5, 16, 2, 17, 18, 19, 20, 21, 22, 23, 24, 25, 26, 27, 28, 29, 30, 31, 32, 33, 34, 35, 36, 37, 38, 39, 40, 41, 42, 43, 44, 45] (by decide +kernel) (by decide +kernel)
set_option maxRecDepth 20000 in
theorem gX12_thin_X12_isThin : GoodIn wsX12_thin (wsV RX12 213 RX12 yX12_isThin wsX12_isThin) := goodIn_app (goodIn_of _ (by decide +kernel)) ggX12_thin_X12_isThin
theorem dX12_thin_0 : decode cX12_thin 0 = .ok (.aload_n 0, 1) := by decide +kernel
theorem dX12_thin_1 : decode cX12_thin 1 = .ok (.iconst 0, 1) := by decide +kernel
theorem dX12_thin_2 : decode cX12_thin 2 = .ok (.putfield 62, 3) := by decide +kernel
theorem dX12_thin_5 : decode cX12_thin 5 = .ok (.iload_n 1, 1) := by decide +kernel
theorem dX12_thin_6 : decode cX12_thin 6 = .ok (.i2l, 1) := by decide +kernel
theorem dX12_thin_7 : decode cX12_thin 7 = .ok (.lconst 0, 1) := by decide +kernel
theorem dX12_thin_8 : decode cX12_thin 8 = .ok (.lconst 1, 1) := by decide +kernel
theorem dX12_thin_9 : decode cX12_thin 9 = .ok (.invokestatic 68, 3) := by decide +kernel
theorem dX12_thin_12 : decode cX12_thin 12 = .ok (.ifCond .ne 5, 3) := by decide +kernel
theorem dX12_thin_15 : decode cX12_thin 15 = .ok (.iconst (-1), 1) := by decide +kernel
theorem dX12_thin_16 : decode cX12_thin 16 = .ok (.ireturn, 1) := by decide +kernel
theorem dX12_thin_17 : decode cX12_thin 17 = .ok (.iconst 0, 1) := by decide +kernel
theorem dX12_thin_18 : decode cX12_thin 18 = .ok (.istore_n 2, 1) := by decide +kernel
theorem dX12_thin_19 : decode cX12_thin 19 = .ok (.bipush (-4), 2) := by decide +kernel
theorem dX12_thin_21 : decode cX12_thin 21 = .ok (.istore_n 3, 1) := by decide +kernel
theorem dX12_thin_22 : decode cX12_thin 22 = .ok (.iconst 0, 1) := by decide +kernel
theorem dX12_thin_23 : decode cX12_thin 23 = .ok (.istore 4, 2) := by decide +kernel
theorem dX12_thin_25 : decode cX12_thin 25 = .ok (.iload 4, 2) := by decide +kernel
theorem dX12_thin_27 : decode cX12_thin 27 = .ok (.bipush 6, 2) := by decide +kernel
theorem dX12_thin_29 : decode cX12_thin 29 = .ok (.if_icmp .ge 75, 3) := by decide +kernel
theorem dX12_thin_32 : decode cX12_thin 32 = .ok (.iconst 0, 1) := by decide +kernel
theorem dX12_thin_33 : decode cX12_thin 33 = .ok (.istore 5, 2) := by decide +kernel
theorem dX12_thin_35 : decode cX12_thin 35 = .ok (.iload 5, 2) := by decide +kernel
theorem dX12_thin_37 : decode cX12_thin 37 = .ok (.aload_n 0, 1) := by decide +kernel
theorem dX12_thin_38 : decode cX12_thin 38 = .ok (.getfield 7, 3) := by decide +kernel
theorem dX12_thin_41 : decode cX12_thin 41 = .ok (.iload 4, 2) := by decide +kernel
theorem dX12_thin_43 : decode cX12_thin 43 = .ok (.iaload, 1) := by decide +kernel
theorem dX12_thin_44 : decode cX12_thin 44 = .ok (.if_icmp .ge 54, 3) := by decide +kernel
theorem dX12_thin_47 : decode cX12_thin 47 = .ok (.aload_n 0, 1) := by decide +kernel
theorem dX12_thin_48 : decode cX12_thin 48 = .ok (.iload 4, 2) := by decide +kernel
theorem dX12_thin_50 : decode cX12_thin 50 = .ok (.iload 5, 2) := by decide +kernel
theorem dX12_thin_52 : decode cX12_thin 52 = .ok (.invokevirtual 213, 3) := by decide +kernel
theorem dX12_thin_55 : decode cX12_thin 55 = .ok (.istore 6, 2) := by decide +kernel
theorem dX12_thin_57 : decode cX12_thin 57 = .ok (.iload 6, 2) := by decide +kernel
theorem dX12_thin_59 : decode cX12_thin 59 = .ok (.ifCond .eq 18, 3) := by decide +kernel
theorem dX12_thin_62 : decode cX12_thin 62 = .ok (.iload_n 2, 1) := by decide +kernel
theorem dX12_thin_63 : decode cX12_thin 63 = .ok (.ifCond .ne 14, 3) := by decide +kernel
theorem dX12_thin_66 : decode cX12_thin 66 = .ok (.bipush 10, 2) := by decide +kernel
theorem dX12_thin_68 : decode cX12_thin 68 = .ok (.iload 4, 2) := by decide +kernel
theorem dX12_thin_70 : decode cX12_thin 70 = .ok (.imul, 1) := by decide +kernel
theorem dX12_thin_71 : decode cX12_thin 71 = .ok (.iload 5, 2) := by decide +kernel
theorem dX12_thin_73 : decode cX12_thin 73 = .ok (.iadd, 1) := by decide +kernel
theorem dX12_thin_74 : decode cX12_thin 74 = .ok (.goto 4, 3) := by decide +kernel
theorem dX12_thin_77 : decode cX12_thin 77 = .ok (.iload_n 3, 1) := by decide +kernel
theorem dX12_thin_78 : decode cX12_thin 78 = .ok (.istore_n 3, 1) := by decide +kernel
theorem dX12_thin_79 : decode cX12_thin 79 = .ok (.iload_n 2, 1) := by decide +kernel
theorem dX12_thin_80 : decode cX12_thin 80 = .ok (.iload 6, 2) := by decide +kernel
theorem dX12_thin_82 : decode cX12_thin 82 = .ok (.ifCond .eq 7, 3) := by decide +kernel
theorem dX12_thin_85 : decode cX12_thin 85 = .ok (.iconst 1, 1) := by decide +kernel
theorem dX12_thin_86 : decode cX12_thin 86 = .ok (.goto 4, 3) := by decide +kernel
theorem dX12_thin_89 : decode cX12_thin 89 = .ok (.iconst 0, 1) := by decide +kernel
theorem dX12_thin_90 : decode cX12_thin 90 = .ok (.iadd, 1) := by decide +kernel
theorem dX12_thin_91 : decode cX12_thin 91 = .ok (.istore_n 2, 1) := by decide +kernel
theorem dX12_thin_92 : decode cX12_thin 92 = .ok (.iinc 5 1, 3) := by decide +kernel
theorem dX12_thin_95 : decode cX12_thin 95 = .ok (.goto (-60), 3) := by decide +kernel
theorem dX12_thin_98 : decode cX12_thin 98 = .ok (.iinc 4 1, 3) := by decide +kernel
theorem dX12_thin_101 : decode cX12_thin 101 = .ok (.goto (-76), 3) := by decide +kernel
theorem dX12_thin_104 : decode cX12_thin 104 = .ok (.iload_n 1, 1) := by decide +kernel
theorem dX12_thin_105 : decode cX12_thin 105 = .ok (.ifCond .ne 7, 3) := by decide +kernel
theorem dX12_thin_108 : decode cX12_thin 108 = .ok (.iload_n 2, 1) := by decide +kernel
theorem dX12_thin_109 : decode cX12_thin 109 = .ok (.goto 4, 3) := by decide +kernel
theorem dX12_thin_112 : decode cX12_thin 112 = .ok (.iload_n 3, 1) := by decide +kernel
theorem dX12_thin_113 : decode cX12_thin 113 = .ok (.ireturn, 1) := by decide +kernel
theorem dX12_layerAt_0 : decode cX12_layerAt 0 = .ok (.iload_n 2, 1) := by decide +kernel
theorem dX12_layerAt_1 : decode cX12_layerAt 1 = .ok (.istore_n 3, 1) := by decide +kernel
theorem dX12_layerAt_2 : decode cX12_layerAt 2 = .ok (.aload_n 0, 1) := by decide +kernel
theorem dX12_layerAt_3 : decode cX12_layerAt 3 = .ok (.getfield 7, 3) := by decide +kernel
theorem dX12_layerAt_6 : decode cX12_layerAt 6 = .ok (.iload_n 1, 1) := by decide +kernel
theorem dX12_layerAt_7 : decode cX12_layerAt 7 = .ok (.iaload, 1) := by decide +kernel
theorem dX12_layerAt_8 : decode cX12_layerAt 8 = .ok (.iconst 1, 1) := by decide +kernel
theorem dX12_layerAt_9 : decode cX12_layerAt 9 = .ok (.isub, 1) := by decide +kernel
theorem dX12_layerAt_10 : decode cX12_layerAt 10 = .ok (.istore 4, 2) := by decide +kernel
theorem dX12_layerAt_12 : decode cX12_layerAt 12 = .ok (.iload 4, 2) := by decide +kernel
theorem dX12_layerAt_14 : decode cX12_layerAt 14 = .ok (.ifCond .lt 43, 3) := by decide +kernel
theorem dX12_layerAt_17 : decode cX12_layerAt 17 = .ok (.iload_n 3, 1) := by decide +kernel
theorem dX12_layerAt_18 : decode cX12_layerAt 18 = .ok (.aload_n 0, 1) := by decide +kernel
theorem dX12_layerAt_19 : decode cX12_layerAt 19 = .ok (.getfield 22, 3) := by decide +kernel
theorem dX12_layerAt_22 : decode cX12_layerAt 22 = .ok (.bipush 8, 2) := by decide +kernel
theorem dX12_layerAt_24 : decode cX12_layerAt 24 = .ok (.iload_n 1, 1) := by decide +kernel
theorem dX12_layerAt_25 : decode cX12_layerAt 25 = .ok (.imul, 1) := by decide +kernel
theorem dX12_layerAt_26 : decode cX12_layerAt 26 = .ok (.iload 4, 2) := by decide +kernel
theorem dX12_layerAt_28 : decode cX12_layerAt 28 = .ok (.iadd, 1) := by decide +kernel
theorem dX12_layerAt_29 : decode cX12_layerAt 29 = .ok (.iaload, 1) := by decide +kernel
theorem dX12_layerAt_30 : decode cX12_layerAt 30 = .ok (.if_icmp .ge 6, 3) := by decide +kernel
theorem dX12_layerAt_33 : decode cX12_layerAt 33 = .ok (.iload 4, 2) := by decide +kernel
theorem dX12_layerAt_35 : decode cX12_layerAt 35 = .ok (.ireturn, 1) := by decide +kernel
theorem dX12_layerAt_36 : decode cX12_layerAt 36 = .ok (.iload_n 3, 1) := by decide +kernel
theorem dX12_layerAt_37 : decode cX12_layerAt 37 = .ok (.aload_n 0, 1) := by decide +kernel
theorem dX12_layerAt_38 : decode cX12_layerAt 38 = .ok (.getfield 22, 3) := by decide +kernel
theorem dX12_layerAt_41 : decode cX12_layerAt 41 = .ok (.bipush 8, 2) := by decide +kernel
theorem dX12_layerAt_43 : decode cX12_layerAt 43 = .ok (.iload_n 1, 1) := by decide +kernel
theorem dX12_layerAt_44 : decode cX12_layerAt 44 = .ok (.imul, 1) := by decide +kernel
theorem dX12_layerAt_45 : decode cX12_layerAt 45 = .ok (.iload 4, 2) := by decide +kernel
theorem dX12_layerAt_47 : decode cX12_layerAt 47 = .ok (.iadd, 1) := by decide +kernel
theorem dX12_layerAt_48 : decode cX12_layerAt 48 = .ok (.iaload, 1) := by decide +kernel
theorem dX12_layerAt_49 : decode cX12_layerAt 49 = .ok (.isub, 1) := by decide +kernel
theorem dX12_layerAt_50 : decode cX12_layerAt 50 = .ok (.istore_n 3, 1) := by decide +kernel
theorem dX12_layerAt_51 : decode cX12_layerAt 51 = .ok (.iinc 4 (-1), 3) := by decide +kernel
theorem dX12_layerAt_54 : decode cX12_layerAt 54 = .ok (.goto (-42), 3) := by decide +kernel
theorem dX12_layerAt_57 : decode cX12_layerAt 57 = .ok (.iconst (-1), 1) := by decide +kernel
theorem dX12_layerAt_58 : decode cX12_layerAt 58 = .ok (.ireturn, 1) := by decide +kernel
set_option maxRecDepth 20000 in
theorem ggX12_spans_X12_isCell : GoodIn wsX12_spans wsX12_isCell := goodIn_r _ [7, 8, 9, 10, 6, 11] (by decide +kernel) (by decide +kernel)
set_option maxRecDepth 20000 in
theorem gX12_spans_X12_isCell : GoodIn wsX12_spans (va_wsS RX12 171 yX12_isCell wsX12_isCell) := goodIn_app (goodIn_of _ (by decide +kernel)) ggX12_spans_X12_isCell
set_option maxRecDepth 20000 in
theorem ggX12_spans_X12_in : GoodIn wsX12_spans wsX12_in := goodIn_r _ [11] (by decide +kernel) (by decide +kernel)
set_option maxRecDepth 20000 in
theorem gX12_spans_X12_in : GoodIn wsX12_spans (va_wsS RX12 68 yX12_in wsX12_in) := goodIn_app (goodIn_of _ (by decide +kernel)) ggX12_spans_X12_in
set_option maxRecDepth 20000 in
theorem ggX12_spans_X12_layerAt : GoodIn wsX12_spans wsX12_layerAt := goodIn_r _ [15, 16, 17, 18, 19, 20, 21, 22, 23, 24, 25, 26, 27, 28, 29, 30, 31, 32, 33, 34, 35, 36, 37, 38, 39, 40, 41, 42, 43, 44, 45, 46] (by decide +kernel) (by decide +kernel)
set_option maxRecDepth 20000 in
theorem gX12_spans_X12_layerAt : GoodIn wsX12_spans (wsV RX12 218 RX12 yX12_layerAt wsX12_layerAt) := goodIn_app (goodIn_of _ (by decide +kernel)) ggX12_spans_X12_layerAt
theorem dX12_spans_0 : decode cX12_spans 0 = .ok (.aload_n 0, 1) := by decide +kernel
theorem dX12_spans_1 : decode cX12_spans 1 = .ok (.iconst 0, 1) := by decide +kernel
theorem dX12_spans_2 : decode cX12_spans 2 = .ok (.putfield 62, 3) := by decide +kernel
theorem dX12_spans_5 : decode cX12_spans 5 = .ok (.iload_n 1, 1) := by decide +kernel
theorem dX12_spans_6 : decode cX12_spans 6 = .ok (.invokestatic 171, 3) := by decide +kernel
theorem dX12_spans_9 : decode cX12_spans 9 = .ok (.ifCond .eq 15, 3) := by decide +kernel
theorem dX12_spans_12 : decode cX12_spans 12 = .ok (.iload_n 2, 1) := by decide +kernel
theorem dX12_spans_13 : decode cX12_spans 13 = .ok (.i2l, 1) := by decide +kernel
theorem dX12_spans_14 : decode cX12_spans 14 = .ok (.lconst 0, 1) := by decide +kernel
theorem dX12_spans_15 : decode cX12_spans 15 = .ok (.ldc2_w 216, 3) := by decide +kernel
theorem dX12_spans_18 : decode cX12_spans 18 = .ok (.invokestatic 68, 3) := by decide +kernel
theorem dX12_spans_21 : decode cX12_spans 21 = .ok (.ifCond .ne 5, 3) := by decide +kernel
theorem dX12_spans_24 : decode cX12_spans 24 = .ok (.iconst (-1), 1) := by decide +kernel
theorem dX12_spans_25 : decode cX12_spans 25 = .ok (.ireturn, 1) := by decide +kernel
theorem dX12_spans_26 : decode cX12_spans 26 = .ok (.aload_n 0, 1) := by decide +kernel
theorem dX12_spans_27 : decode cX12_spans 27 = .ok (.iload_n 1, 1) := by decide +kernel
theorem dX12_spans_28 : decode cX12_spans 28 = .ok (.iload_n 2, 1) := by decide +kernel
theorem dX12_spans_29 : decode cX12_spans 29 = .ok (.invokevirtual 218, 3) := by decide +kernel
theorem dX12_spans_32 : decode cX12_spans 32 = .ok (.istore_n 3, 1) := by decide +kernel
theorem dX12_spans_33 : decode cX12_spans 33 = .ok (.iload_n 3, 1) := by decide +kernel
theorem dX12_spans_34 : decode cX12_spans 34 = .ok (.ifCond .ge 8, 3) := by decide +kernel
theorem dX12_spans_37 : decode cX12_spans 37 = .ok (.bipush (-4), 2) := by decide +kernel
theorem dX12_spans_39 : decode cX12_spans 39 = .ok (.goto 14, 3) := by decide +kernel
theorem dX12_spans_42 : decode cX12_spans 42 = .ok (.aload_n 0, 1) := by decide +kernel
theorem dX12_spans_43 : decode cX12_spans 43 = .ok (.getfield 19, 3) := by decide +kernel
theorem dX12_spans_46 : decode cX12_spans 46 = .ok (.bipush 8, 2) := by decide +kernel
theorem dX12_spans_48 : decode cX12_spans 48 = .ok (.iload_n 1, 1) := by decide +kernel
theorem dX12_spans_49 : decode cX12_spans 49 = .ok (.imul, 1) := by decide +kernel
theorem dX12_spans_50 : decode cX12_spans 50 = .ok (.iload_n 3, 1) := by decide +kernel
theorem dX12_spans_51 : decode cX12_spans 51 = .ok (.iadd, 1) := by decide +kernel
theorem dX12_spans_52 : decode cX12_spans 52 = .ok (.iaload, 1) := by decide +kernel
theorem dX12_spans_53 : decode cX12_spans 53 = .ok (.ireturn, 1) := by decide +kernel
theorem dX12_disorder_0 : decode cX12_disorder 0 = .ok (.aload_n 0, 1) := by decide +kernel
theorem dX12_disorder_1 : decode cX12_disorder 1 = .ok (.iconst 0, 1) := by decide +kernel
theorem dX12_disorder_2 : decode cX12_disorder 2 = .ok (.putfield 62, 3) := by decide +kernel
theorem dX12_disorder_5 : decode cX12_disorder 5 = .ok (.iconst 0, 1) := by decide +kernel
theorem dX12_disorder_6 : decode cX12_disorder 6 = .ok (.istore_n 1, 1) := by decide +kernel
theorem dX12_disorder_7 : decode cX12_disorder 7 = .ok (.iconst 0, 1) := by decide +kernel
theorem dX12_disorder_8 : decode cX12_disorder 8 = .ok (.istore_n 2, 1) := by decide +kernel
theorem dX12_disorder_9 : decode cX12_disorder 9 = .ok (.iload_n 2, 1) := by decide +kernel
theorem dX12_disorder_10 : decode cX12_disorder 10 = .ok (.bipush 6, 2) := by decide +kernel
theorem dX12_disorder_12 : decode cX12_disorder 12 = .ok (.if_icmp .ge 62, 3) := by decide +kernel
theorem dX12_disorder_15 : decode cX12_disorder 15 = .ok (.iconst 1, 1) := by decide +kernel
theorem dX12_disorder_16 : decode cX12_disorder 16 = .ok (.istore_n 3, 1) := by decide +kernel
theorem dX12_disorder_17 : decode cX12_disorder 17 = .ok (.iload_n 3, 1) := by decide +kernel
theorem dX12_disorder_18 : decode cX12_disorder 18 = .ok (.aload_n 0, 1) := by decide +kernel
theorem dX12_disorder_19 : decode cX12_disorder 19 = .ok (.getfield 7, 3) := by decide +kernel
theorem dX12_disorder_22 : decode cX12_disorder 22 = .ok (.iload_n 2, 1) := by decide +kernel
theorem dX12_disorder_23 : decode cX12_disorder 23 = .ok (.iaload, 1) := by decide +kernel
theorem dX12_disorder_24 : decode cX12_disorder 24 = .ok (.if_icmp .ge 44, 3) := by decide +kernel
theorem dX12_disorder_27 : decode cX12_disorder 27 = .ok (.iload_n 1, 1) := by decide +kernel
theorem dX12_disorder_28 : decode cX12_disorder 28 = .ok (.aload_n 0, 1) := by decide +kernel
theorem dX12_disorder_29 : decode cX12_disorder 29 = .ok (.getfield 19, 3) := by decide +kernel
theorem dX12_disorder_32 : decode cX12_disorder 32 = .ok (.bipush 8, 2) := by decide +kernel
theorem dX12_disorder_34 : decode cX12_disorder 34 = .ok (.iload_n 2, 1) := by decide +kernel
theorem dX12_disorder_35 : decode cX12_disorder 35 = .ok (.imul, 1) := by decide +kernel
theorem dX12_disorder_36 : decode cX12_disorder 36 = .ok (.iload_n 3, 1) := by decide +kernel
theorem dX12_disorder_37 : decode cX12_disorder 37 = .ok (.iadd, 1) := by decide +kernel
theorem dX12_disorder_38 : decode cX12_disorder 38 = .ok (.iaload, 1) := by decide +kernel
theorem dX12_disorder_39 : decode cX12_disorder 39 = .ok (.aload_n 0, 1) := by decide +kernel
theorem dX12_disorder_40 : decode cX12_disorder 40 = .ok (.getfield 19, 3) := by decide +kernel
theorem dX12_disorder_43 : decode cX12_disorder 43 = .ok (.bipush 8, 2) := by decide +kernel
theorem dX12_disorder_45 : decode cX12_disorder 45 = .ok (.iload_n 2, 1) := by decide +kernel
theorem dX12_disorder_46 : decode cX12_disorder 46 = .ok (.imul, 1) := by decide +kernel
theorem dX12_disorder_47 : decode cX12_disorder 47 = .ok (.iload_n 3, 1) := by decide +kernel
theorem dX12_disorder_48 : decode cX12_disorder 48 = .ok (.iadd, 1) := by decide +kernel
theorem dX12_disorder_49 : decode cX12_disorder 49 = .ok (.iconst 1, 1) := by decide +kernel
theorem dX12_disorder_50 : decode cX12_disorder 50 = .ok (.isub, 1) := by decide +kernel
theorem dX12_disorder_51 : decode cX12_disorder 51 = .ok (.iaload, 1) := by decide +kernel
theorem dX12_disorder_52 : decode cX12_disorder 52 = .ok (.if_icmp .ge 7, 3) := by decide +kernel
theorem dX12_disorder_55 : decode cX12_disorder 55 = .ok (.iconst 1, 1) := by decide +kernel
theorem dX12_disorder_56 : decode cX12_disorder 56 = .ok (.goto 4, 3) := by decide +kernel
theorem dX12_disorder_59 : decode cX12_disorder 59 = .ok (.iconst 0, 1) := by decide +kernel
theorem dX12_disorder_60 : decode cX12_disorder 60 = .ok (.iadd, 1) := by decide +kernel
theorem dX12_disorder_61 : decode cX12_disorder 61 = .ok (.istore_n 1, 1) := by decide +kernel
theorem dX12_disorder_62 : decode cX12_disorder 62 = .ok (.iinc 3 1, 3) := by decide +kernel
theorem dX12_disorder_65 : decode cX12_disorder 65 = .ok (.goto (-48), 3) := by decide +kernel
theorem dX12_disorder_68 : decode cX12_disorder 68 = .ok (.iinc 2 1, 3) := by decide +kernel
theorem dX12_disorder_71 : decode cX12_disorder 71 = .ok (.goto (-62), 3) := by decide +kernel
theorem dX12_disorder_74 : decode cX12_disorder 74 = .ok (.iload_n 1, 1) := by decide +kernel
theorem dX12_disorder_75 : decode cX12_disorder 75 = .ok (.ireturn, 1) := by decide +kernel
theorem dX12_oathBits_0 : decode cX12_oathBits 0 = .ok (.iconst 0, 1) := by decide +kernel
theorem dX12_oathBits_1 : decode cX12_oathBits 1 = .ok (.istore_n 1, 1) := by decide +kernel
theorem dX12_oathBits_2 : decode cX12_oathBits 2 = .ok (.iconst 0, 1) := by decide +kernel
theorem dX12_oathBits_3 : decode cX12_oathBits 3 = .ok (.istore_n 2, 1) := by decide +kernel
theorem dX12_oathBits_4 : decode cX12_oathBits 4 = .ok (.iload_n 2, 1) := by decide +kernel
theorem dX12_oathBits_5 : decode cX12_oathBits 5 = .ok (.bipush 6, 2) := by decide +kernel
theorem dX12_oathBits_7 : decode cX12_oathBits 7 = .ok (.if_icmp .ge 43, 3) := by decide +kernel
theorem dX12_oathBits_10 : decode cX12_oathBits 10 = .ok (.iconst 0, 1) := by decide +kernel
theorem dX12_oathBits_11 : decode cX12_oathBits 11 = .ok (.istore_n 3, 1) := by decide +kernel
theorem dX12_oathBits_12 : decode cX12_oathBits 12 = .ok (.iload_n 3, 1) := by decide +kernel
theorem dX12_oathBits_13 : decode cX12_oathBits 13 = .ok (.aload_n 0, 1) := by decide +kernel
theorem dX12_oathBits_14 : decode cX12_oathBits 14 = .ok (.getfield 7, 3) := by decide +kernel
theorem dX12_oathBits_17 : decode cX12_oathBits 17 = .ok (.iload_n 2, 1) := by decide +kernel
theorem dX12_oathBits_18 : decode cX12_oathBits 18 = .ok (.iaload, 1) := by decide +kernel
theorem dX12_oathBits_19 : decode cX12_oathBits 19 = .ok (.if_icmp .ge 25, 3) := by decide +kernel
theorem dX12_oathBits_22 : decode cX12_oathBits 22 = .ok (.iload_n 1, 1) := by decide +kernel
theorem dX12_oathBits_23 : decode cX12_oathBits 23 = .ok (.iconst 1, 1) := by decide +kernel
theorem dX12_oathBits_24 : decode cX12_oathBits 24 = .ok (.aload_n 0, 1) := by decide +kernel
theorem dX12_oathBits_25 : decode cX12_oathBits 25 = .ok (.getfield 16, 3) := by decide +kernel
theorem dX12_oathBits_28 : decode cX12_oathBits 28 = .ok (.bipush 8, 2) := by decide +kernel
theorem dX12_oathBits_30 : decode cX12_oathBits 30 = .ok (.iload_n 2, 1) := by decide +kernel
theorem dX12_oathBits_31 : decode cX12_oathBits 31 = .ok (.imul, 1) := by decide +kernel
theorem dX12_oathBits_32 : decode cX12_oathBits 32 = .ok (.iload_n 3, 1) := by decide +kernel
theorem dX12_oathBits_33 : decode cX12_oathBits 33 = .ok (.iadd, 1) := by decide +kernel
theorem dX12_oathBits_34 : decode cX12_oathBits 34 = .ok (.iaload, 1) := by decide +kernel
theorem dX12_oathBits_35 : decode cX12_oathBits 35 = .ok (.ishl, 1) := by decide +kernel
theorem dX12_oathBits_36 : decode cX12_oathBits 36 = .ok (.ior, 1) := by decide +kernel
theorem dX12_oathBits_37 : decode cX12_oathBits 37 = .ok (.istore_n 1, 1) := by decide +kernel
theorem dX12_oathBits_38 : decode cX12_oathBits 38 = .ok (.iinc 3 1, 3) := by decide +kernel
theorem dX12_oathBits_41 : decode cX12_oathBits 41 = .ok (.goto (-29), 3) := by decide +kernel
theorem dX12_oathBits_44 : decode cX12_oathBits 44 = .ok (.iinc 2 1, 3) := by decide +kernel
theorem dX12_oathBits_47 : decode cX12_oathBits 47 = .ok (.goto (-43), 3) := by decide +kernel
theorem dX12_oathBits_50 : decode cX12_oathBits 50 = .ok (.iload_n 1, 1) := by decide +kernel
theorem dX12_oathBits_51 : decode cX12_oathBits 51 = .ok (.ireturn, 1) := by decide +kernel
theorem dX12_aheadOf_0 : decode cX12_aheadOf 0 = .ok (.iconst 0, 1) := by decide +kernel
theorem dX12_aheadOf_1 : decode cX12_aheadOf 1 = .ok (.istore_n 2, 1) := by decide +kernel
theorem dX12_aheadOf_2 : decode cX12_aheadOf 2 = .ok (.iconst 0, 1) := by decide +kernel
theorem dX12_aheadOf_3 : decode cX12_aheadOf 3 = .ok (.istore_n 3, 1) := by decide +kernel
theorem dX12_aheadOf_4 : decode cX12_aheadOf 4 = .ok (.iload_n 3, 1) := by decide +kernel
theorem dX12_aheadOf_5 : decode cX12_aheadOf 5 = .ok (.bipush 6, 2) := by decide +kernel
theorem dX12_aheadOf_7 : decode cX12_aheadOf 7 = .ok (.if_icmp .ge 76, 3) := by decide +kernel
theorem dX12_aheadOf_10 : decode cX12_aheadOf 10 = .ok (.iconst 0, 1) := by decide +kernel
theorem dX12_aheadOf_11 : decode cX12_aheadOf 11 = .ok (.istore 4, 2) := by decide +kernel
theorem dX12_aheadOf_13 : decode cX12_aheadOf 13 = .ok (.iconst 0, 1) := by decide +kernel
theorem dX12_aheadOf_14 : decode cX12_aheadOf 14 = .ok (.istore 5, 2) := by decide +kernel
theorem dX12_aheadOf_16 : decode cX12_aheadOf 16 = .ok (.iload 5, 2) := by decide +kernel
theorem dX12_aheadOf_18 : decode cX12_aheadOf 18 = .ok (.aload_n 0, 1) := by decide +kernel
theorem dX12_aheadOf_19 : decode cX12_aheadOf 19 = .ok (.getfield 7, 3) := by decide +kernel
theorem dX12_aheadOf_22 : decode cX12_aheadOf 22 = .ok (.iload_n 3, 1) := by decide +kernel
theorem dX12_aheadOf_23 : decode cX12_aheadOf 23 = .ok (.iaload, 1) := by decide +kernel
theorem dX12_aheadOf_24 : decode cX12_aheadOf 24 = .ok (.if_icmp .ge 53, 3) := by decide +kernel
theorem dX12_aheadOf_27 : decode cX12_aheadOf 27 = .ok (.iload_n 2, 1) := by decide +kernel
theorem dX12_aheadOf_28 : decode cX12_aheadOf 28 = .ok (.aload_n 0, 1) := by decide +kernel
theorem dX12_aheadOf_29 : decode cX12_aheadOf 29 = .ok (.getfield 16, 3) := by decide +kernel
theorem dX12_aheadOf_32 : decode cX12_aheadOf 32 = .ok (.bipush 8, 2) := by decide +kernel
theorem dX12_aheadOf_34 : decode cX12_aheadOf 34 = .ok (.iload_n 3, 1) := by decide +kernel
theorem dX12_aheadOf_35 : decode cX12_aheadOf 35 = .ok (.imul, 1) := by decide +kernel
theorem dX12_aheadOf_36 : decode cX12_aheadOf 36 = .ok (.iload 5, 2) := by decide +kernel
theorem dX12_aheadOf_38 : decode cX12_aheadOf 38 = .ok (.iadd, 1) := by decide +kernel
theorem dX12_aheadOf_39 : decode cX12_aheadOf 39 = .ok (.iaload, 1) := by decide +kernel
theorem dX12_aheadOf_40 : decode cX12_aheadOf 40 = .ok (.iload_n 1, 1) := by decide +kernel
theorem dX12_aheadOf_41 : decode cX12_aheadOf 41 = .ok (.if_icmp .ne 8, 3) := by decide +kernel
theorem dX12_aheadOf_44 : decode cX12_aheadOf 44 = .ok (.iload 4, 2) := by decide +kernel
theorem dX12_aheadOf_46 : decode cX12_aheadOf 46 = .ok (.goto 4, 3) := by decide +kernel
theorem dX12_aheadOf_49 : decode cX12_aheadOf 49 = .ok (.iconst 0, 1) := by decide +kernel
theorem dX12_aheadOf_50 : decode cX12_aheadOf 50 = .ok (.ior, 1) := by decide +kernel
theorem dX12_aheadOf_51 : decode cX12_aheadOf 51 = .ok (.istore_n 2, 1) := by decide +kernel
theorem dX12_aheadOf_52 : decode cX12_aheadOf 52 = .ok (.iload 4, 2) := by decide +kernel
theorem dX12_aheadOf_54 : decode cX12_aheadOf 54 = .ok (.iconst 1, 1) := by decide +kernel
theorem dX12_aheadOf_55 : decode cX12_aheadOf 55 = .ok (.aload_n 0, 1) := by decide +kernel
theorem dX12_aheadOf_56 : decode cX12_aheadOf 56 = .ok (.getfield 16, 3) := by decide +kernel
theorem dX12_aheadOf_59 : decode cX12_aheadOf 59 = .ok (.bipush 8, 2) := by decide +kernel
theorem dX12_aheadOf_61 : decode cX12_aheadOf 61 = .ok (.iload_n 3, 1) := by decide +kernel
theorem dX12_aheadOf_62 : decode cX12_aheadOf 62 = .ok (.imul, 1) := by decide +kernel
theorem dX12_aheadOf_63 : decode cX12_aheadOf 63 = .ok (.iload 5, 2) := by decide +kernel
theorem dX12_aheadOf_65 : decode cX12_aheadOf 65 = .ok (.iadd, 1) := by decide +kernel
theorem dX12_aheadOf_66 : decode cX12_aheadOf 66 = .ok (.iaload, 1) := by decide +kernel
theorem dX12_aheadOf_67 : decode cX12_aheadOf 67 = .ok (.ishl, 1) := by decide +kernel
theorem dX12_aheadOf_68 : decode cX12_aheadOf 68 = .ok (.ior, 1) := by decide +kernel
theorem dX12_aheadOf_69 : decode cX12_aheadOf 69 = .ok (.istore 4, 2) := by decide +kernel
theorem dX12_aheadOf_71 : decode cX12_aheadOf 71 = .ok (.iinc 5 1, 3) := by decide +kernel
theorem dX12_aheadOf_74 : decode cX12_aheadOf 74 = .ok (.goto (-58), 3) := by decide +kernel
theorem dX12_aheadOf_77 : decode cX12_aheadOf 77 = .ok (.iinc 3 1, 3) := by decide +kernel
theorem dX12_aheadOf_80 : decode cX12_aheadOf 80 = .ok (.goto (-76), 3) := by decide +kernel
theorem dX12_aheadOf_83 : decode cX12_aheadOf 83 = .ok (.iload_n 2, 1) := by decide +kernel
theorem dX12_aheadOf_84 : decode cX12_aheadOf 84 = .ok (.iconst 1, 1) := by decide +kernel
theorem dX12_aheadOf_85 : decode cX12_aheadOf 85 = .ok (.iload_n 1, 1) := by decide +kernel
theorem dX12_aheadOf_86 : decode cX12_aheadOf 86 = .ok (.ishl, 1) := by decide +kernel
theorem dX12_aheadOf_87 : decode cX12_aheadOf 87 = .ok (.iconst (-1), 1) := by decide +kernel
theorem dX12_aheadOf_88 : decode cX12_aheadOf 88 = .ok (.ixor, 1) := by decide +kernel
theorem dX12_aheadOf_89 : decode cX12_aheadOf 89 = .ok (.iand, 1) := by decide +kernel
theorem dX12_aheadOf_90 : decode cX12_aheadOf 90 = .ok (.ireturn, 1) := by decide +kernel
set_option maxRecDepth 20000 in
theorem ggX12_order_X12_in : GoodIn wsX12_order wsX12_in := goodIn_r _ [5] (by decide +kernel) (by decide +kernel)
set_option maxRecDepth 20000 in
theorem gX12_order_X12_in : GoodIn wsX12_order (va_wsS RX12 68 yX12_in wsX12_in) := goodIn_app (goodIn_of _ (by decide +kernel)) ggX12_order_X12_in
set_option maxRecDepth 20000 in
theorem ggX12_order_X12_oathBits : GoodIn wsX12_order wsX12_oathBits := goodIn_r _ [9, 10, 11, 16, 17, 18, 19, 20, 21, 22, 23, 24, 25, 26, 27, 28, 29, 30, 31, 32, 33, 34, 35, 36, 37, 38, 39, 40, 41, 42, 43, 44] (by decide +kernel) (by decide +kernel)
set_option maxRecDepth 20000 in
theorem gX12_order_X12_oathBits : GoodIn wsX12_order (wsV RX12 221 RX12 yX12_oathBits wsX12_oathBits) := goodIn_app (goodIn_of _ (by decide +kernel)) ggX12_order_X12_oathBits
set_option maxRecDepth 20000 in
theorem ggX12_order_X12_aheadOf : GoodIn wsX12_order wsX12_aheadOf := goodIn_r _ [15, 10, 11, 16, 17, 18, 19, 20, 21, 22, 23, 24, 25, 26, 27, 28, 29, 30, 31, 32, 33, 34, 35, 36, 37, 38, 39, 40, 41, 42, 43, 44] (by decide +kernel) (by decide +kernel)
set_option maxRecDepth 20000 in
theorem gX12_order_X12_aheadOf : GoodIn wsX12_order (wsV RX12 224 RX12 yX12_aheadOf wsX12_aheadOf) := goodIn_app (goodIn_of _ (by decide +kernel)) ggX12_order_X12_aheadOf
theorem dX12_order_0 : decode cX12_order 0 = .ok (.aload_n 0, 1) := by decide +kernel
theorem dX12_order_1 : decode cX12_order 1 = .ok (.iconst 0, 1) := by decide +kernel
theorem dX12_order_2 : decode cX12_order 2 = .ok (.putfield 62, 3) := by decide +kernel
theorem dX12_order_5 : decode cX12_order 5 = .ok (.iload_n 1, 1) := by decide +kernel
theorem dX12_order_6 : decode cX12_order 6 = .ok (.i2l, 1) := by decide +kernel
theorem dX12_order_7 : decode cX12_order 7 = .ok (.lconst 0, 1) := by decide +kernel
theorem dX12_order_8 : decode cX12_order 8 = .ok (.lconst 1, 1) := by decide +kernel
theorem dX12_order_9 : decode cX12_order 9 = .ok (.invokestatic 68, 3) := by decide +kernel
theorem dX12_order_12 : decode cX12_order 12 = .ok (.ifCond .ne 5, 3) := by decide +kernel
theorem dX12_order_15 : decode cX12_order 15 = .ok (.iconst (-1), 1) := by decide +kernel
theorem dX12_order_16 : decode cX12_order 16 = .ok (.ireturn, 1) := by decide +kernel
theorem dX12_order_17 : decode cX12_order 17 = .ok (.aload_n 0, 1) := by decide +kernel
theorem dX12_order_18 : decode cX12_order 18 = .ok (.invokevirtual 221, 3) := by decide +kernel
theorem dX12_order_21 : decode cX12_order 21 = .ok (.istore_n 2, 1) := by decide +kernel
theorem dX12_order_22 : decode cX12_order 22 = .ok (.bipush (-4), 2) := by decide +kernel
theorem dX12_order_24 : decode cX12_order 24 = .ok (.istore_n 3, 1) := by decide +kernel
theorem dX12_order_25 : decode cX12_order 25 = .ok (.bipush (-4), 2) := by decide +kernel
theorem dX12_order_27 : decode cX12_order 27 = .ok (.istore 4, 2) := by decide +kernel
theorem dX12_order_29 : decode cX12_order 29 = .ok (.iload_n 2, 1) := by decide +kernel
theorem dX12_order_30 : decode cX12_order 30 = .ok (.ifCond .eq 86, 3) := by decide +kernel
theorem dX12_order_33 : decode cX12_order 33 = .ok (.iconst (-1), 1) := by decide +kernel
theorem dX12_order_34 : decode cX12_order 34 = .ok (.istore 5, 2) := by decide +kernel
theorem dX12_order_36 : decode cX12_order 36 = .ok (.bipush 9, 2) := by decide +kernel
theorem dX12_order_38 : decode cX12_order 38 = .ok (.istore 6, 2) := by decide +kernel
theorem dX12_order_40 : decode cX12_order 40 = .ok (.iload 6, 2) := by decide +kernel
theorem dX12_order_42 : decode cX12_order 42 = .ok (.ifCond .lt 39, 3) := by decide +kernel
theorem dX12_order_45 : decode cX12_order 45 = .ok (.iload_n 2, 1) := by decide +kernel
theorem dX12_order_46 : decode cX12_order 46 = .ok (.iload 6, 2) := by decide +kernel
theorem dX12_order_48 : decode cX12_order 48 = .ok (.ishr, 1) := by decide +kernel
theorem dX12_order_49 : decode cX12_order 49 = .ok (.iconst 1, 1) := by decide +kernel
theorem dX12_order_50 : decode cX12_order 50 = .ok (.iand, 1) := by decide +kernel
theorem dX12_order_51 : decode cX12_order 51 = .ok (.iconst 1, 1) := by decide +kernel
theorem dX12_order_52 : decode cX12_order 52 = .ok (.if_icmp .ne 19, 3) := by decide +kernel
theorem dX12_order_55 : decode cX12_order 55 = .ok (.aload_n 0, 1) := by decide +kernel
theorem dX12_order_56 : decode cX12_order 56 = .ok (.iload 6, 2) := by decide +kernel
theorem dX12_order_58 : decode cX12_order 58 = .ok (.invokevirtual 224, 3) := by decide +kernel
theorem dX12_order_61 : decode cX12_order 61 = .ok (.iload_n 2, 1) := by decide +kernel
theorem dX12_order_62 : decode cX12_order 62 = .ok (.iand, 1) := by decide +kernel
theorem dX12_order_63 : decode cX12_order 63 = .ok (.ifCond .ne 8, 3) := by decide +kernel
theorem dX12_order_66 : decode cX12_order 66 = .ok (.iload 6, 2) := by decide +kernel
theorem dX12_order_68 : decode cX12_order 68 = .ok (.goto 5, 3) := by decide +kernel
theorem dX12_order_71 : decode cX12_order 71 = .ok (.iload 5, 2) := by decide +kernel
theorem dX12_order_73 : decode cX12_order 73 = .ok (.istore 5, 2) := by decide +kernel
theorem dX12_order_75 : decode cX12_order 75 = .ok (.iinc 6 (-1), 3) := by decide +kernel
theorem dX12_order_78 : decode cX12_order 78 = .ok (.goto (-38), 3) := by decide +kernel
theorem dX12_order_81 : decode cX12_order 81 = .ok (.iload 5, 2) := by decide +kernel
theorem dX12_order_83 : decode cX12_order 83 = .ok (.ifCond .ge 6, 3) := by decide +kernel
theorem dX12_order_86 : decode cX12_order 86 = .ok (.bipush (-4), 2) := by decide +kernel
theorem dX12_order_88 : decode cX12_order 88 = .ok (.ireturn, 1) := by decide +kernel
theorem dX12_order_89 : decode cX12_order 89 = .ok (.iload_n 3, 1) := by decide +kernel
theorem dX12_order_90 : decode cX12_order 90 = .ok (.ifCond .ge 8, 3) := by decide +kernel
theorem dX12_order_93 : decode cX12_order 93 = .ok (.iload 5, 2) := by decide +kernel
theorem dX12_order_95 : decode cX12_order 95 = .ok (.goto 4, 3) := by decide +kernel
theorem dX12_order_98 : decode cX12_order 98 = .ok (.iload_n 3, 1) := by decide +kernel
theorem dX12_order_99 : decode cX12_order 99 = .ok (.istore_n 3, 1) := by decide +kernel
theorem dX12_order_100 : decode cX12_order 100 = .ok (.iload 5, 2) := by decide +kernel
theorem dX12_order_102 : decode cX12_order 102 = .ok (.istore 4, 2) := by decide +kernel
theorem dX12_order_104 : decode cX12_order 104 = .ok (.iload_n 2, 1) := by decide +kernel
theorem dX12_order_105 : decode cX12_order 105 = .ok (.iconst 1, 1) := by decide +kernel
theorem dX12_order_106 : decode cX12_order 106 = .ok (.iload 5, 2) := by decide +kernel
theorem dX12_order_108 : decode cX12_order 108 = .ok (.ishl, 1) := by decide +kernel
theorem dX12_order_109 : decode cX12_order 109 = .ok (.iconst (-1), 1) := by decide +kernel
theorem dX12_order_110 : decode cX12_order 110 = .ok (.ixor, 1) := by decide +kernel
theorem dX12_order_111 : decode cX12_order 111 = .ok (.iand, 1) := by decide +kernel
theorem dX12_order_112 : decode cX12_order 112 = .ok (.istore_n 2, 1) := by decide +kernel
theorem dX12_order_113 : decode cX12_order 113 = .ok (.goto (-84), 3) := by decide +kernel
theorem dX12_order_116 : decode cX12_order 116 = .ok (.iload_n 1, 1) := by decide +kernel
theorem dX12_order_117 : decode cX12_order 117 = .ok (.ifCond .ne 7, 3) := by decide +kernel
theorem dX12_order_120 : decode cX12_order 120 = .ok (.iload_n 3, 1) := by decide +kernel
theorem dX12_order_121 : decode cX12_order 121 = .ok (.goto 5, 3) := by decide +kernel
theorem dX12_order_124 : decode cX12_order 124 = .ok (.iload 4, 2) := by decide +kernel
theorem dX12_order_126 : decode cX12_order 126 = .ok (.ireturn, 1) := by decide +kernel
set_option maxRecDepth 20000 in
theorem ggX12_joined_X12_isCell : GoodIn wsX12_joined wsX12_isCell := goodIn_r _ [6, 7, 8, 9, 5, 10] (by decide +kernel) (by decide +kernel)
set_option maxRecDepth 20000 in
theorem gX12_joined_X12_isCell : GoodIn wsX12_joined (va_wsS RX12 171 yX12_isCell wsX12_isCell) := goodIn_app (goodIn_of _ (by decide +kernel)) ggX12_joined_X12_isCell
set_option maxRecDepth 20000 in
theorem ggX12_joined_X12_layerAt : GoodIn wsX12_joined wsX12_layerAt := goodIn_r _ [14, 15, 16, 17, 18, 19, 20, 21, 22, 23, 24, 25, 26, 27, 28, 29, 30, 31, 32, 33, 34, 35, 36, 37, 38, 39, 40, 41, 42, 43, 44, 45] (by decide +kernel) (by decide +kernel)
set_option maxRecDepth 20000 in
theorem gX12_joined_X12_layerAt : GoodIn wsX12_joined (wsV RX12 218 RX12 yX12_layerAt wsX12_layerAt) := goodIn_app (goodIn_of _ (by decide +kernel)) ggX12_joined_X12_layerAt
theorem dX12_joined_0 : decode cX12_joined 0 = .ok (.aload_n 0, 1) := by decide +kernel
theorem dX12_joined_1 : decode cX12_joined 1 = .ok (.iconst 0, 1) := by decide +kernel
theorem dX12_joined_2 : decode cX12_joined 2 = .ok (.putfield 62, 3) := by decide +kernel
theorem dX12_joined_5 : decode cX12_joined 5 = .ok (.iload_n 1, 1) := by decide +kernel
theorem dX12_joined_6 : decode cX12_joined 6 = .ok (.invokestatic 171, 3) := by decide +kernel
theorem dX12_joined_9 : decode cX12_joined 9 = .ok (.ifCond .eq 15, 3) := by decide +kernel
theorem dX12_joined_12 : decode cX12_joined 12 = .ok (.iload_n 2, 1) := by decide +kernel
theorem dX12_joined_13 : decode cX12_joined 13 = .ok (.invokestatic 171, 3) := by decide +kernel
theorem dX12_joined_16 : decode cX12_joined 16 = .ok (.ifCond .eq 8, 3) := by decide +kernel
theorem dX12_joined_19 : decode cX12_joined 19 = .ok (.iload_n 1, 1) := by decide +kernel
theorem dX12_joined_20 : decode cX12_joined 20 = .ok (.iload_n 2, 1) := by decide +kernel
theorem dX12_joined_21 : decode cX12_joined 21 = .ok (.if_icmp .ne 5, 3) := by decide +kernel
theorem dX12_joined_24 : decode cX12_joined 24 = .ok (.iconst (-1), 1) := by decide +kernel
theorem dX12_joined_25 : decode cX12_joined 25 = .ok (.ireturn, 1) := by decide +kernel
theorem dX12_joined_26 : decode cX12_joined 26 = .ok (.iconst 0, 1) := by decide +kernel
theorem dX12_joined_27 : decode cX12_joined 27 = .ok (.istore_n 3, 1) := by decide +kernel
theorem dX12_joined_28 : decode cX12_joined 28 = .ok (.aload_n 0, 1) := by decide +kernel
theorem dX12_joined_29 : decode cX12_joined 29 = .ok (.iload_n 1, 1) := by decide +kernel
theorem dX12_joined_30 : decode cX12_joined 30 = .ok (.iconst 0, 1) := by decide +kernel
theorem dX12_joined_31 : decode cX12_joined 31 = .ok (.invokevirtual 218, 3) := by decide +kernel
theorem dX12_joined_34 : decode cX12_joined 34 = .ok (.istore 4, 2) := by decide +kernel
theorem dX12_joined_36 : decode cX12_joined 36 = .ok (.aload_n 0, 1) := by decide +kernel
theorem dX12_joined_37 : decode cX12_joined 37 = .ok (.iload_n 2, 1) := by decide +kernel
theorem dX12_joined_38 : decode cX12_joined 38 = .ok (.iconst 0, 1) := by decide +kernel
theorem dX12_joined_39 : decode cX12_joined 39 = .ok (.invokevirtual 218, 3) := by decide +kernel
theorem dX12_joined_42 : decode cX12_joined 42 = .ok (.istore 5, 2) := by decide +kernel
theorem dX12_joined_44 : decode cX12_joined 44 = .ok (.iload 4, 2) := by decide +kernel
theorem dX12_joined_46 : decode cX12_joined 46 = .ok (.ifCond .lt 57, 3) := by decide +kernel
theorem dX12_joined_49 : decode cX12_joined 49 = .ok (.iload 5, 2) := by decide +kernel
theorem dX12_joined_51 : decode cX12_joined 51 = .ok (.ifCond .lt 52, 3) := by decide +kernel
theorem dX12_joined_54 : decode cX12_joined 54 = .ok (.aload_n 0, 1) := by decide +kernel
theorem dX12_joined_55 : decode cX12_joined 55 = .ok (.getfield 16, 3) := by decide +kernel
theorem dX12_joined_58 : decode cX12_joined 58 = .ok (.bipush 8, 2) := by decide +kernel
theorem dX12_joined_60 : decode cX12_joined 60 = .ok (.iload_n 1, 1) := by decide +kernel
theorem dX12_joined_61 : decode cX12_joined 61 = .ok (.imul, 1) := by decide +kernel
theorem dX12_joined_62 : decode cX12_joined 62 = .ok (.iload 4, 2) := by decide +kernel
theorem dX12_joined_64 : decode cX12_joined 64 = .ok (.iadd, 1) := by decide +kernel
theorem dX12_joined_65 : decode cX12_joined 65 = .ok (.iaload, 1) := by decide +kernel
theorem dX12_joined_66 : decode cX12_joined 66 = .ok (.aload_n 0, 1) := by decide +kernel
theorem dX12_joined_67 : decode cX12_joined 67 = .ok (.getfield 16, 3) := by decide +kernel
theorem dX12_joined_70 : decode cX12_joined 70 = .ok (.bipush 8, 2) := by decide +kernel
theorem dX12_joined_72 : decode cX12_joined 72 = .ok (.iload_n 2, 1) := by decide +kernel
theorem dX12_joined_73 : decode cX12_joined 73 = .ok (.imul, 1) := by decide +kernel
theorem dX12_joined_74 : decode cX12_joined 74 = .ok (.iload 5, 2) := by decide +kernel
theorem dX12_joined_76 : decode cX12_joined 76 = .ok (.iadd, 1) := by decide +kernel
theorem dX12_joined_77 : decode cX12_joined 77 = .ok (.iaload, 1) := by decide +kernel
theorem dX12_joined_78 : decode cX12_joined 78 = .ok (.if_icmp .ne 25, 3) := by decide +kernel
theorem dX12_joined_81 : decode cX12_joined 81 = .ok (.iinc 3 1, 3) := by decide +kernel
theorem dX12_joined_84 : decode cX12_joined 84 = .ok (.aload_n 0, 1) := by decide +kernel
theorem dX12_joined_85 : decode cX12_joined 85 = .ok (.iload_n 1, 1) := by decide +kernel
theorem dX12_joined_86 : decode cX12_joined 86 = .ok (.iload_n 3, 1) := by decide +kernel
theorem dX12_joined_87 : decode cX12_joined 87 = .ok (.invokevirtual 218, 3) := by decide +kernel
theorem dX12_joined_90 : decode cX12_joined 90 = .ok (.istore 4, 2) := by decide +kernel
theorem dX12_joined_92 : decode cX12_joined 92 = .ok (.aload_n 0, 1) := by decide +kernel
theorem dX12_joined_93 : decode cX12_joined 93 = .ok (.iload_n 2, 1) := by decide +kernel
theorem dX12_joined_94 : decode cX12_joined 94 = .ok (.iload_n 3, 1) := by decide +kernel
theorem dX12_joined_95 : decode cX12_joined 95 = .ok (.invokevirtual 218, 3) := by decide +kernel
theorem dX12_joined_98 : decode cX12_joined 98 = .ok (.istore 5, 2) := by decide +kernel
theorem dX12_joined_100 : decode cX12_joined 100 = .ok (.goto (-56), 3) := by decide +kernel
theorem dX12_joined_103 : decode cX12_joined 103 = .ok (.iload_n 3, 1) := by decide +kernel
theorem dX12_joined_104 : decode cX12_joined 104 = .ok (.ireturn, 1) := by decide +kernel
theorem dX12_draw_0 : decode cX12_draw 0 = .ok (.aload_n 0, 1) := by decide +kernel
theorem dX12_draw_1 : decode cX12_draw 1 = .ok (.aload_n 0, 1) := by decide +kernel
theorem dX12_draw_2 : decode cX12_draw 2 = .ok (.getfield 227, 3) := by decide +kernel
theorem dX12_draw_5 : decode cX12_draw 5 = .ok (.ldc 230, 2) := by decide +kernel
theorem dX12_draw_7 : decode cX12_draw 7 = .ok (.imul, 1) := by decide +kernel
theorem dX12_draw_8 : decode cX12_draw 8 = .ok (.sipush 12345, 3) := by decide +kernel
theorem dX12_draw_11 : decode cX12_draw 11 = .ok (.iadd, 1) := by decide +kernel
theorem dX12_draw_12 : decode cX12_draw 12 = .ok (.putfield 227, 3) := by decide +kernel
theorem dX12_draw_15 : decode cX12_draw 15 = .ok (.aload_n 0, 1) := by decide +kernel
theorem dX12_draw_16 : decode cX12_draw 16 = .ok (.getfield 227, 3) := by decide +kernel
theorem dX12_draw_19 : decode cX12_draw 19 = .ok (.ldc 231, 2) := by decide +kernel
theorem dX12_draw_21 : decode cX12_draw 21 = .ok (.iand, 1) := by decide +kernel
theorem dX12_draw_22 : decode cX12_draw 22 = .ok (.ldc 232, 2) := by decide +kernel
theorem dX12_draw_24 : decode cX12_draw 24 = .ok (.idiv, 1) := by decide +kernel
theorem dX12_draw_25 : decode cX12_draw 25 = .ok (.iload_n 1, 1) := by decide +kernel
theorem dX12_draw_26 : decode cX12_draw 26 = .ok (.irem, 1) := by decide +kernel
theorem dX12_draw_27 : decode cX12_draw 27 = .ok (.ireturn, 1) := by decide +kernel
set_option maxRecDepth 20000 in
theorem ggX12_seeded_X12_in : GoodIn wsX12_seeded wsX12_in := goodIn_r _ [8] (by decide +kernel) (by decide +kernel)
set_option maxRecDepth 20000 in
theorem gX12_seeded_X12_in : GoodIn wsX12_seeded (va_wsS RX12 68 yX12_in wsX12_in) := goodIn_app (goodIn_of _ (by decide +kernel)) ggX12_seeded_X12_in
set_option maxRecDepth 20000 in
theorem ggX12_seeded_X12_open : GoodIn wsX12_seeded wsX12_open := goodIn_r _ [12, 13, 14, 15, 16, 7, 17, 18, 19, 20, 4, 21, 22, 23, 24, 25, 26, 27, 28, 29, 63, 64, 65, 66, 67, 68, 69, 70, 71, 72, 73, 74, 75, 76, 77, 78, 79, 80, 81, 82, 83, 84, 85, 86, 87, 88, 89, 90, 91] (by decide +kernel) (by decide +kernel)
set_option maxRecDepth 20000 in
theorem gX12_seeded_X12_open : GoodIn wsX12_seeded (wsV RX12 159 RX12 yX12_open wsX12_open) := goodIn_app (goodIn_of _ (by decide +kernel)) ggX12_seeded_X12_open
set_option maxRecDepth 20000 in
theorem ggX12_seeded_X12_draw : GoodIn wsX12_seeded wsX12_draw := goodIn_r _ [33, 3, 34, 35, 36, 63, 64, 65, 66, 67, 68, 69, 70, 71, 72, 73, 74, 75, 76, 77, 78, 79, 80, 81, 82, 83, 84, 85, 86, 87, 88, 89, 90, 91] (by decide +kernel) (by decide +kernel)
set_option maxRecDepth 20000 in
theorem gX12_seeded_X12_draw : GoodIn wsX12_seeded (wsV RX12 235 RX12 yX12_draw wsX12_draw) := goodIn_app (goodIn_of _ (by decide +kernel)) ggX12_seeded_X12_draw
set_option maxRecDepth 20000 in
theorem ggX12_seeded_X12_freezes : GoodIn wsX12_seeded wsX12_freezes := goodIn_r _ [40, 21, 22, 23, 24, 4, 25, 41, 42, 7, 43, 63, 64, 65, 66, 67, 68, 69, 70, 71, 72, 73, 74, 75, 76, 77, 78, 79, 80, 81, 82, 83, 84, 85, 86, 87, 88, 89, 90, 91] (by decide +kernel) (by decide +kernel)
set_option maxRecDepth 20000 in
theorem gX12_seeded_X12_freezes : GoodIn wsX12_seeded (wsV RX12 140 RX12 yX12_freezes wsX12_freezes) := goodIn_app (goodIn_of _ (by decide +kernel)) ggX12_seeded_X12_freezes
set_option maxRecDepth 20000 in
theorem ggX12_seeded_X12_warmDay : GoodIn wsX12_seeded wsX12_warmDay := goodIn_r _ [47, 21, 25, 22, 23, 48, 49, 7, 50, 63, 64, 65, 66, 67, 68, 69, 70, 71, 72, 73, 74, 75, 76, 77, 78, 79, 80, 81, 82, 83, 84, 85, 86, 87, 88, 89, 90, 91] (by decide +kernel) (by decide +kernel)
set_option maxRecDepth 20000 in
theorem gX12_seeded_X12_warmDay : GoodIn wsX12_seeded (wsV RX12 144 RX12 yX12_warmDay wsX12_warmDay) := goodIn_app (goodIn_of _ (by decide +kernel)) ggX12_seeded_X12_warmDay
set_option maxRecDepth 20000 in
theorem ggX12_seeded_X12_iceOfAll : GoodIn wsX12_seeded wsX12_iceOfAll := goodIn_r _ [54, 55, 56, 57, 7, 58, 21, 25, 63, 64, 65, 66, 67, 68, 69, 70, 71, 72, 73, 74, 75, 76, 77, 78, 79, 80, 81, 82, 83, 84, 85, 86, 87, 88, 89, 90, 91] (by decide +kernel) (by decide +kernel)
set_option maxRecDepth 20000 in
theorem gX12_seeded_X12_iceOfAll : GoodIn wsX12_seeded (wsV RX12 111 RX12 yX12_iceOfAll wsX12_iceOfAll) := goodIn_app (goodIn_of _ (by decide +kernel)) ggX12_seeded_X12_iceOfAll
set_option maxRecDepth 20000 in
theorem ggX12_seeded_X12_close : GoodIn wsX12_seeded wsX12_close := goodIn_r _ [62, 13, 14, 15, 16, 7, 17, 18, 19, 20, 4, 21, 22, 23, 24, 25, 26, 27, 28, 29, 63, 64, 65, 66, 67, 68, 69, 70, 71, 72, 73, 74, 75, 76, 77, 78, 79, 80, 81, 82, 83, 84, 85, 86, 87, 88, 89, 90, 91] (by decide +kernel) (by decide +kernel)
set_option maxRecDepth 20000 in
theorem gX12_seeded_X12_close : GoodIn wsX12_seeded (wsV RX12 166 RX12 yX12_close wsX12_close) := goodIn_app (goodIn_of _ (by decide +kernel)) ggX12_seeded_X12_close
theorem dX12_seeded_0 : decode cX12_seeded 0 = .ok (.aload_n 0, 1) := by decide +kernel
theorem dX12_seeded_1 : decode cX12_seeded 1 = .ok (.iconst 0, 1) := by decide +kernel
theorem dX12_seeded_2 : decode cX12_seeded 2 = .ok (.putfield 62, 3) := by decide +kernel
theorem dX12_seeded_5 : decode cX12_seeded 5 = .ok (.iload_n 1, 1) := by decide +kernel
theorem dX12_seeded_6 : decode cX12_seeded 6 = .ok (.i2l, 1) := by decide +kernel
theorem dX12_seeded_7 : decode cX12_seeded 7 = .ok (.lconst 1, 1) := by decide +kernel
theorem dX12_seeded_8 : decode cX12_seeded 8 = .ok (.ldc2_w 233, 3) := by decide +kernel
theorem dX12_seeded_11 : decode cX12_seeded 11 = .ok (.invokestatic 68, 3) := by decide +kernel
theorem dX12_seeded_14 : decode cX12_seeded 14 = .ok (.ifCond .ne 5, 3) := by decide +kernel
theorem dX12_seeded_17 : decode cX12_seeded 17 = .ok (.iconst (-1), 1) := by decide +kernel
theorem dX12_seeded_18 : decode cX12_seeded 18 = .ok (.ireturn, 1) := by decide +kernel
theorem dX12_seeded_19 : decode cX12_seeded 19 = .ok (.aload_n 0, 1) := by decide +kernel
theorem dX12_seeded_20 : decode cX12_seeded 20 = .ok (.invokevirtual 159, 3) := by decide +kernel
theorem dX12_seeded_23 : decode cX12_seeded 23 = .ok (.aload_n 0, 1) := by decide +kernel
theorem dX12_seeded_24 : decode cX12_seeded 24 = .ok (.iload_n 2, 1) := by decide +kernel
theorem dX12_seeded_25 : decode cX12_seeded 25 = .ok (.putfield 227, 3) := by decide +kernel
theorem dX12_seeded_28 : decode cX12_seeded 28 = .ok (.iconst 0, 1) := by decide +kernel
theorem dX12_seeded_29 : decode cX12_seeded 29 = .ok (.istore_n 3, 1) := by decide +kernel
theorem dX12_seeded_30 : decode cX12_seeded 30 = .ok (.iload_n 3, 1) := by decide +kernel
theorem dX12_seeded_31 : decode cX12_seeded 31 = .ok (.iload_n 1, 1) := by decide +kernel
theorem dX12_seeded_32 : decode cX12_seeded 32 = .ok (.if_icmp .ge 105, 3) := by decide +kernel
theorem dX12_seeded_35 : decode cX12_seeded 35 = .ok (.aload_n 0, 1) := by decide +kernel
theorem dX12_seeded_36 : decode cX12_seeded 36 = .ok (.iconst 4, 1) := by decide +kernel
theorem dX12_seeded_37 : decode cX12_seeded 37 = .ok (.invokevirtual 235, 3) := by decide +kernel
theorem dX12_seeded_40 : decode cX12_seeded 40 = .ok (.istore 4, 2) := by decide +kernel
theorem dX12_seeded_42 : decode cX12_seeded 42 = .ok (.iload 4, 2) := by decide +kernel
theorem dX12_seeded_44 : decode cX12_seeded 44 = .ok (.iconst 2, 1) := by decide +kernel
theorem dX12_seeded_45 : decode cX12_seeded 45 = .ok (.if_icmp .ge 49, 3) := by decide +kernel
theorem dX12_seeded_48 : decode cX12_seeded 48 = .ok (.aload_n 0, 1) := by decide +kernel
theorem dX12_seeded_49 : decode cX12_seeded 49 = .ok (.bipush 6, 2) := by decide +kernel
theorem dX12_seeded_51 : decode cX12_seeded 51 = .ok (.invokevirtual 235, 3) := by decide +kernel
theorem dX12_seeded_54 : decode cX12_seeded 54 = .ok (.istore 5, 2) := by decide +kernel
theorem dX12_seeded_56 : decode cX12_seeded 56 = .ok (.aload_n 0, 1) := by decide +kernel
theorem dX12_seeded_57 : decode cX12_seeded 57 = .ok (.bipush 8, 2) := by decide +kernel
theorem dX12_seeded_59 : decode cX12_seeded 59 = .ok (.invokevirtual 235, 3) := by decide +kernel
theorem dX12_seeded_62 : decode cX12_seeded 62 = .ok (.istore 6, 2) := by decide +kernel
theorem dX12_seeded_64 : decode cX12_seeded 64 = .ok (.aload_n 0, 1) := by decide +kernel
theorem dX12_seeded_65 : decode cX12_seeded 65 = .ok (.bipush 10, 2) := by decide +kernel
theorem dX12_seeded_67 : decode cX12_seeded 67 = .ok (.invokevirtual 235, 3) := by decide +kernel
theorem dX12_seeded_70 : decode cX12_seeded 70 = .ok (.istore 7, 2) := by decide +kernel
theorem dX12_seeded_72 : decode cX12_seeded 72 = .ok (.aload_n 0, 1) := by decide +kernel
theorem dX12_seeded_73 : decode cX12_seeded 73 = .ok (.iload 5, 2) := by decide +kernel
theorem dX12_seeded_75 : decode cX12_seeded 75 = .ok (.iload 6, 2) := by decide +kernel
theorem dX12_seeded_77 : decode cX12_seeded 77 = .ok (.iload 7, 2) := by decide +kernel
theorem dX12_seeded_79 : decode cX12_seeded 79 = .ok (.aload_n 0, 1) := by decide +kernel
theorem dX12_seeded_80 : decode cX12_seeded 80 = .ok (.bipush 9, 2) := by decide +kernel
theorem dX12_seeded_82 : decode cX12_seeded 82 = .ok (.invokevirtual 235, 3) := by decide +kernel
theorem dX12_seeded_85 : decode cX12_seeded 85 = .ok (.iconst 1, 1) := by decide +kernel
theorem dX12_seeded_86 : decode cX12_seeded 86 = .ok (.iadd, 1) := by decide +kernel
theorem dX12_seeded_87 : decode cX12_seeded 87 = .ok (.invokevirtual 140, 3) := by decide +kernel
theorem dX12_seeded_90 : decode cX12_seeded 90 = .ok (.pop, 1) := by decide +kernel
theorem dX12_seeded_91 : decode cX12_seeded 91 = .ok (.goto 40, 3) := by decide +kernel
theorem dX12_seeded_94 : decode cX12_seeded 94 = .ok (.iload 4, 2) := by decide +kernel
theorem dX12_seeded_96 : decode cX12_seeded 96 = .ok (.iconst 2, 1) := by decide +kernel
theorem dX12_seeded_97 : decode cX12_seeded 97 = .ok (.if_icmp .ne 11, 3) := by decide +kernel
theorem dX12_seeded_100 : decode cX12_seeded 100 = .ok (.aload_n 0, 1) := by decide +kernel
theorem dX12_seeded_101 : decode cX12_seeded 101 = .ok (.invokevirtual 144, 3) := by decide +kernel
theorem dX12_seeded_104 : decode cX12_seeded 104 = .ok (.pop, 1) := by decide +kernel
theorem dX12_seeded_105 : decode cX12_seeded 105 = .ok (.goto 26, 3) := by decide +kernel
theorem dX12_seeded_108 : decode cX12_seeded 108 = .ok (.aload_n 0, 1) := by decide +kernel
theorem dX12_seeded_109 : decode cX12_seeded 109 = .ok (.dup, 1) := by decide +kernel
theorem dX12_seeded_110 : decode cX12_seeded 110 = .ok (.getfield 72, 3) := by decide +kernel
theorem dX12_seeded_113 : decode cX12_seeded 113 = .ok (.aload_n 0, 1) := by decide +kernel
theorem dX12_seeded_114 : decode cX12_seeded 114 = .ok (.getfield 72, 3) := by decide +kernel
theorem dX12_seeded_117 : decode cX12_seeded 117 = .ok (.bipush 99, 2) := by decide +kernel
theorem dX12_seeded_119 : decode cX12_seeded 119 = .ok (.if_icmp .ge 7, 3) := by decide +kernel
theorem dX12_seeded_122 : decode cX12_seeded 122 = .ok (.iconst 1, 1) := by decide +kernel
theorem dX12_seeded_123 : decode cX12_seeded 123 = .ok (.goto 4, 3) := by decide +kernel
theorem dX12_seeded_126 : decode cX12_seeded 126 = .ok (.iconst 0, 1) := by decide +kernel
theorem dX12_seeded_127 : decode cX12_seeded 127 = .ok (.iadd, 1) := by decide +kernel
theorem dX12_seeded_128 : decode cX12_seeded 128 = .ok (.putfield 72, 3) := by decide +kernel
theorem dX12_seeded_131 : decode cX12_seeded 131 = .ok (.iinc 3 1, 3) := by decide +kernel
theorem dX12_seeded_134 : decode cX12_seeded 134 = .ok (.goto (-104), 3) := by decide +kernel
theorem dX12_seeded_137 : decode cX12_seeded 137 = .ok (.aload_n 0, 1) := by decide +kernel
theorem dX12_seeded_138 : decode cX12_seeded 138 = .ok (.invokevirtual 111, 3) := by decide +kernel
theorem dX12_seeded_141 : decode cX12_seeded 141 = .ok (.istore_n 3, 1) := by decide +kernel
theorem dX12_seeded_142 : decode cX12_seeded 142 = .ok (.aload_n 0, 1) := by decide +kernel
theorem dX12_seeded_143 : decode cX12_seeded 143 = .ok (.invokevirtual 166, 3) := by decide +kernel
theorem dX12_seeded_146 : decode cX12_seeded 146 = .ok (.iload_n 3, 1) := by decide +kernel
theorem dX12_seeded_147 : decode cX12_seeded 147 = .ok (.ireturn, 1) := by decide +kernel
theorem dX12_skippedIn_0 : decode cX12_skippedIn 0 = .ok (.aload_n 0, 1) := by decide +kernel
theorem dX12_skippedIn_1 : decode cX12_skippedIn 1 = .ok (.getfield 49, 3) := by decide +kernel
theorem dX12_skippedIn_4 : decode cX12_skippedIn 4 = .ok (.iload_n 1, 1) := by decide +kernel
theorem dX12_skippedIn_5 : decode cX12_skippedIn 5 = .ok (.iaload, 1) := by decide +kernel
theorem dX12_skippedIn_6 : decode cX12_skippedIn 6 = .ok (.ifCond .ne 9, 3) := by decide +kernel
theorem dX12_skippedIn_9 : decode cX12_skippedIn 9 = .ok (.ldc2_w 238, 3) := by decide +kernel
theorem dX12_skippedIn_12 : decode cX12_skippedIn 12 = .ok (.goto 22, 3) := by decide +kernel
theorem dX12_skippedIn_15 : decode cX12_skippedIn 15 = .ok (.aload_n 0, 1) := by decide +kernel
theorem dX12_skippedIn_16 : decode cX12_skippedIn 16 = .ok (.getfield 49, 3) := by decide +kernel
theorem dX12_skippedIn_19 : decode cX12_skippedIn 19 = .ok (.iload_n 1, 1) := by decide +kernel
theorem dX12_skippedIn_20 : decode cX12_skippedIn 20 = .ok (.iaload, 1) := by decide +kernel
theorem dX12_skippedIn_21 : decode cX12_skippedIn 21 = .ok (.iconst 1, 1) := by decide +kernel
theorem dX12_skippedIn_22 : decode cX12_skippedIn 22 = .ok (.if_icmp .ne 9, 3) := by decide +kernel
theorem dX12_skippedIn_25 : decode cX12_skippedIn 25 = .ok (.ldc2_w 240, 3) := by decide +kernel
theorem dX12_skippedIn_28 : decode cX12_skippedIn 28 = .ok (.goto 6, 3) := by decide +kernel
theorem dX12_skippedIn_31 : decode cX12_skippedIn 31 = .ok (.ldc2_w 242, 3) := by decide +kernel
theorem dX12_skippedIn_34 : decode cX12_skippedIn 34 = .ok (.lreturn, 1) := by decide +kernel
set_option maxRecDepth 20000 in
theorem ggX12_judge_X12_wrongRow : GoodIn wsX12_judge wsX12_wrongRow := goodIn_r _ [8, 9, 10, 11, 12, 7, 13, 28, 29, 30, 31, 32, 33, 34, 35, 36, 37, 38, 39, 40, 41, 42, 43, 44, 45, 46, 47, 48, 49, 50, 51, 52, 53, 54, 55, 56] (by decide +kernel) (by decide +kernel)
set_option maxRecDepth 20000 in
theorem gX12_judge_X12_wrongRow : GoodIn wsX12_judge (wsV RX12 244 RX12 yX12_wrongRow wsX12_wrongRow) := goodIn_app (goodIn_of _ (by decide +kernel)) ggX12_judge_X12_wrongRow
set_option maxRecDepth 20000 in
theorem ggX12_judge_X12_skippedIn : GoodIn wsX12_judge wsX12_skippedIn := goodIn_r _ [17, 18, 19, 20, 21, 28, 29, 30, 31, 32, 33, 34, 35, 36, 37, 38, 39, 40, 41, 42, 43, 44, 45, 46, 47, 48, 49, 50, 51, 52, 53, 54, 55, 56] (by decide +kernel) (by decide +kernel)
set_option maxRecDepth 20000 in
theorem gX12_judge_X12_skippedIn : GoodIn wsX12_judge (wsV RX12 247 RX12 yX12_skippedIn wsX12_skippedIn) := goodIn_app (goodIn_of _ (by decide +kernel)) ggX12_judge_X12_skippedIn
set_option maxRecDepth 20000 in
theorem ggX12_judge_X12_iceOf : GoodIn wsX12_judge wsX12_iceOf := goodIn_r _ [25, 26, 27, 28, 29, 30, 31, 32, 33, 34, 35, 36, 37, 38, 39, 40, 41, 42, 43, 44, 45, 46, 47, 48, 49, 50, 51, 52, 53, 54, 55, 56] (by decide +kernel) (by decide +kernel)
set_option maxRecDepth 20000 in
theorem gX12_judge_X12_iceOf : GoodIn wsX12_judge (wsV RX12 105 RX12 yX12_iceOf wsX12_iceOf) := goodIn_app (goodIn_of _ (by decide +kernel)) ggX12_judge_X12_iceOf
theorem dX12_judge_0 : decode cX12_judge 0 = .ok (.aload_n 0, 1) := by decide +kernel
theorem dX12_judge_1 : decode cX12_judge 1 = .ok (.iconst 0, 1) := by decide +kernel
theorem dX12_judge_2 : decode cX12_judge 2 = .ok (.putfield 62, 3) := by decide +kernel
theorem dX12_judge_5 : decode cX12_judge 5 = .ok (.aload_n 0, 1) := by decide +kernel
theorem dX12_judge_6 : decode cX12_judge 6 = .ok (.iload_n 1, 1) := by decide +kernel
theorem dX12_judge_7 : decode cX12_judge 7 = .ok (.invokevirtual 244, 3) := by decide +kernel
theorem dX12_judge_10 : decode cX12_judge 10 = .ok (.istore_n 2, 1) := by decide +kernel
theorem dX12_judge_11 : decode cX12_judge 11 = .ok (.iload_n 2, 1) := by decide +kernel
theorem dX12_judge_12 : decode cX12_judge 12 = .ok (.ifCond .ge 5, 3) := by decide +kernel
theorem dX12_judge_15 : decode cX12_judge 15 = .ok (.iload_n 2, 1) := by decide +kernel
theorem dX12_judge_16 : decode cX12_judge 16 = .ok (.ireturn, 1) := by decide +kernel
theorem dX12_judge_17 : decode cX12_judge 17 = .ok (.iconst 0, 1) := by decide +kernel
theorem dX12_judge_18 : decode cX12_judge 18 = .ok (.istore_n 3, 1) := by decide +kernel
theorem dX12_judge_19 : decode cX12_judge 19 = .ok (.iload_n 3, 1) := by decide +kernel
theorem dX12_judge_20 : decode cX12_judge 20 = .ok (.bipush 6, 2) := by decide +kernel
theorem dX12_judge_22 : decode cX12_judge 22 = .ok (.if_icmp .ge 57, 3) := by decide +kernel
theorem dX12_judge_25 : decode cX12_judge 25 = .ok (.iload_n 3, 1) := by decide +kernel
theorem dX12_judge_26 : decode cX12_judge 26 = .ok (.aload_n 0, 1) := by decide +kernel
theorem dX12_judge_27 : decode cX12_judge 27 = .ok (.getfield 52, 3) := by decide +kernel
theorem dX12_judge_30 : decode cX12_judge 30 = .ok (.iload_n 1, 1) := by decide +kernel
theorem dX12_judge_31 : decode cX12_judge 31 = .ok (.iaload, 1) := by decide +kernel
theorem dX12_judge_32 : decode cX12_judge 32 = .ok (.if_icmp .ge 47, 3) := by decide +kernel
theorem dX12_judge_35 : decode cX12_judge 35 = .ok (.aload_n 0, 1) := by decide +kernel
theorem dX12_judge_36 : decode cX12_judge 36 = .ok (.getfield 55, 3) := by decide +kernel
theorem dX12_judge_39 : decode cX12_judge 39 = .ok (.bipush 100, 2) := by decide +kernel
theorem dX12_judge_41 : decode cX12_judge 41 = .ok (.iload_n 1, 1) := by decide +kernel
theorem dX12_judge_42 : decode cX12_judge 42 = .ok (.imul, 1) := by decide +kernel
theorem dX12_judge_43 : decode cX12_judge 43 = .ok (.iload_n 3, 1) := by decide +kernel
theorem dX12_judge_44 : decode cX12_judge 44 = .ok (.iadd, 1) := by decide +kernel
theorem dX12_judge_45 : decode cX12_judge 45 = .ok (.laload, 1) := by decide +kernel
theorem dX12_judge_46 : decode cX12_judge 46 = .ok (.lstore 4, 2) := by decide +kernel
theorem dX12_judge_48 : decode cX12_judge 48 = .ok (.lload 4, 2) := by decide +kernel
theorem dX12_judge_50 : decode cX12_judge 50 = .ok (.aload_n 0, 1) := by decide +kernel
theorem dX12_judge_51 : decode cX12_judge 51 = .ok (.iload_n 1, 1) := by decide +kernel
theorem dX12_judge_52 : decode cX12_judge 52 = .ok (.invokevirtual 247, 3) := by decide +kernel
theorem dX12_judge_55 : decode cX12_judge 55 = .ok (.lcmp, 1) := by decide +kernel
theorem dX12_judge_56 : decode cX12_judge 56 = .ok (.ifCond .eq 17, 3) := by decide +kernel
theorem dX12_judge_59 : decode cX12_judge 59 = .ok (.lload 4, 2) := by decide +kernel
theorem dX12_judge_61 : decode cX12_judge 61 = .ok (.aload_n 0, 1) := by decide +kernel
theorem dX12_judge_62 : decode cX12_judge 62 = .ok (.iload_n 3, 1) := by decide +kernel
theorem dX12_judge_63 : decode cX12_judge 63 = .ok (.invokevirtual 105, 3) := by decide +kernel
theorem dX12_judge_66 : decode cX12_judge 66 = .ok (.i2l, 1) := by decide +kernel
theorem dX12_judge_67 : decode cX12_judge 67 = .ok (.lcmp, 1) := by decide +kernel
theorem dX12_judge_68 : decode cX12_judge 68 = .ok (.ifCond .eq 5, 3) := by decide +kernel
theorem dX12_judge_71 : decode cX12_judge 71 = .ok (.iload_n 3, 1) := by decide +kernel
theorem dX12_judge_72 : decode cX12_judge 72 = .ok (.ireturn, 1) := by decide +kernel
theorem dX12_judge_73 : decode cX12_judge 73 = .ok (.iinc 3 1, 3) := by decide +kernel
theorem dX12_judge_76 : decode cX12_judge 76 = .ok (.goto (-57), 3) := by decide +kernel
theorem dX12_judge_79 : decode cX12_judge 79 = .ok (.aload_n 0, 1) := by decide +kernel
theorem dX12_judge_80 : decode cX12_judge 80 = .ok (.getfield 52, 3) := by decide +kernel
theorem dX12_judge_83 : decode cX12_judge 83 = .ok (.iload_n 1, 1) := by decide +kernel
theorem dX12_judge_84 : decode cX12_judge 84 = .ok (.iaload, 1) := by decide +kernel
theorem dX12_judge_85 : decode cX12_judge 85 = .ok (.bipush 6, 2) := by decide +kernel
theorem dX12_judge_87 : decode cX12_judge 87 = .ok (.if_icmp .ge 12, 3) := by decide +kernel
theorem dX12_judge_90 : decode cX12_judge 90 = .ok (.aload_n 0, 1) := by decide +kernel
theorem dX12_judge_91 : decode cX12_judge 91 = .ok (.getfield 52, 3) := by decide +kernel
theorem dX12_judge_94 : decode cX12_judge 94 = .ok (.iload_n 1, 1) := by decide +kernel
theorem dX12_judge_95 : decode cX12_judge 95 = .ok (.iaload, 1) := by decide +kernel
theorem dX12_judge_96 : decode cX12_judge 96 = .ok (.goto 21, 3) := by decide +kernel
theorem dX12_judge_99 : decode cX12_judge 99 = .ok (.aload_n 0, 1) := by decide +kernel
theorem dX12_judge_100 : decode cX12_judge 100 = .ok (.getfield 52, 3) := by decide +kernel
theorem dX12_judge_103 : decode cX12_judge 103 = .ok (.iload_n 1, 1) := by decide +kernel
theorem dX12_judge_104 : decode cX12_judge 104 = .ok (.iaload, 1) := by decide +kernel
theorem dX12_judge_105 : decode cX12_judge 105 = .ok (.bipush 6, 2) := by decide +kernel
theorem dX12_judge_107 : decode cX12_judge 107 = .ok (.if_icmp .le 8, 3) := by decide +kernel
theorem dX12_judge_110 : decode cX12_judge 110 = .ok (.bipush 6, 2) := by decide +kernel
theorem dX12_judge_112 : decode cX12_judge 112 = .ok (.goto 5, 3) := by decide +kernel
theorem dX12_judge_115 : decode cX12_judge 115 = .ok (.bipush (-4), 2) := by decide +kernel
theorem dX12_judge_117 : decode cX12_judge 117 = .ok (.ireturn, 1) := by decide +kernel
set_option maxRecDepth 20000 in
theorem ggX12_count_X12_isRead : GoodIn wsX12_count wsX12_isRead := goodIn_r _ [8, 9, 10, 11, 12, 13, 7, 14, 2, 15, 16, 17, 18, 31, 32, 33, 34, 35, 36, 37, 38, 39, 40, 41, 42, 43, 44, 45, 46, 47, 48, 49, 50, 51, 52, 53, 54, 55, 56, 57, 58, 59] (by decide +kernel) (by decide +kernel)
set_option maxRecDepth 20000 in
theorem gX12_count_X12_isRead : GoodIn wsX12_count (wsV RX12 191 RX12 yX12_isRead wsX12_isRead) := goodIn_app (goodIn_of _ (by decide +kernel)) ggX12_count_X12_isRead
set_option maxRecDepth 20000 in
theorem ggX12_count_X12_iceOfAll : GoodIn wsX12_count wsX12_iceOfAll := goodIn_r _ [22, 23, 24, 25, 7, 26, 2, 15, 31, 32, 33, 34, 35, 36, 37, 38, 39, 40, 41, 42, 43, 44, 45, 46, 47, 48, 49, 50, 51, 52, 53, 54, 55, 56, 57, 58, 59] (by decide +kernel) (by decide +kernel)
set_option maxRecDepth 20000 in
theorem gX12_count_X12_iceOfAll : GoodIn wsX12_count (wsV RX12 111 RX12 yX12_iceOfAll wsX12_iceOfAll) := goodIn_app (goodIn_of _ (by decide +kernel)) ggX12_count_X12_iceOfAll
set_option maxRecDepth 20000 in
theorem ggX12_count_X12_oathBits : GoodIn wsX12_count wsX12_oathBits := goodIn_r _ [30, 2, 10, 31, 32, 33, 34, 35, 36, 37, 38, 39, 40, 41, 42, 43, 44, 45, 46, 47, 48, 49, 50, 51, 52, 53, 54, 55, 56, 57, 58, 59] (by decide +kernel) (by decide +kernel)
set_option maxRecDepth 20000 in
theorem gX12_count_X12_oathBits : GoodIn wsX12_count (wsV RX12 221 RX12 yX12_oathBits wsX12_oathBits) := goodIn_app (goodIn_of _ (by decide +kernel)) ggX12_count_X12_oathBits
theorem dX12_count_0 : decode cX12_count 0 = .ok (.aload_n 0, 1) := by decide +kernel
theorem dX12_count_1 : decode cX12_count 1 = .ok (.iconst 0, 1) := by decide +kernel
theorem dX12_count_2 : decode cX12_count 2 = .ok (.putfield 62, 3) := by decide +kernel
theorem dX12_count_5 : decode cX12_count 5 = .ok (.iconst 0, 1) := by decide +kernel
theorem dX12_count_6 : decode cX12_count 6 = .ok (.istore_n 2, 1) := by decide +kernel
theorem dX12_count_7 : decode cX12_count 7 = .ok (.iconst 0, 1) := by decide +kernel
theorem dX12_count_8 : decode cX12_count 8 = .ok (.istore_n 3, 1) := by decide +kernel
theorem dX12_count_9 : decode cX12_count 9 = .ok (.iconst 0, 1) := by decide +kernel
theorem dX12_count_10 : decode cX12_count 10 = .ok (.istore 4, 2) := by decide +kernel
theorem dX12_count_12 : decode cX12_count 12 = .ok (.iload 4, 2) := by decide +kernel
theorem dX12_count_14 : decode cX12_count 14 = .ok (.bipush 6, 2) := by decide +kernel
theorem dX12_count_16 : decode cX12_count 16 = .ok (.if_icmp .ge 59, 3) := by decide +kernel
theorem dX12_count_19 : decode cX12_count 19 = .ok (.iload_n 2, 1) := by decide +kernel
theorem dX12_count_20 : decode cX12_count 20 = .ok (.aload_n 0, 1) := by decide +kernel
theorem dX12_count_21 : decode cX12_count 21 = .ok (.getfield 7, 3) := by decide +kernel
theorem dX12_count_24 : decode cX12_count 24 = .ok (.iload 4, 2) := by decide +kernel
theorem dX12_count_26 : decode cX12_count 26 = .ok (.iaload, 1) := by decide +kernel
theorem dX12_count_27 : decode cX12_count 27 = .ok (.iadd, 1) := by decide +kernel
theorem dX12_count_28 : decode cX12_count 28 = .ok (.istore_n 2, 1) := by decide +kernel
theorem dX12_count_29 : decode cX12_count 29 = .ok (.iconst 0, 1) := by decide +kernel
theorem dX12_count_30 : decode cX12_count 30 = .ok (.istore 5, 2) := by decide +kernel
theorem dX12_count_32 : decode cX12_count 32 = .ok (.iload 5, 2) := by decide +kernel
theorem dX12_count_34 : decode cX12_count 34 = .ok (.aload_n 0, 1) := by decide +kernel
theorem dX12_count_35 : decode cX12_count 35 = .ok (.getfield 7, 3) := by decide +kernel
theorem dX12_count_38 : decode cX12_count 38 = .ok (.iload 4, 2) := by decide +kernel
theorem dX12_count_40 : decode cX12_count 40 = .ok (.iaload, 1) := by decide +kernel
theorem dX12_count_41 : decode cX12_count 41 = .ok (.if_icmp .ge 28, 3) := by decide +kernel
theorem dX12_count_44 : decode cX12_count 44 = .ok (.iload_n 3, 1) := by decide +kernel
theorem dX12_count_45 : decode cX12_count 45 = .ok (.aload_n 0, 1) := by decide +kernel
theorem dX12_count_46 : decode cX12_count 46 = .ok (.iload 4, 2) := by decide +kernel
theorem dX12_count_48 : decode cX12_count 48 = .ok (.iload 5, 2) := by decide +kernel
theorem dX12_count_50 : decode cX12_count 50 = .ok (.invokevirtual 191, 3) := by decide +kernel
theorem dX12_count_53 : decode cX12_count 53 = .ok (.ifCond .eq 7, 3) := by decide +kernel
theorem dX12_count_56 : decode cX12_count 56 = .ok (.iconst 1, 1) := by decide +kernel
theorem dX12_count_57 : decode cX12_count 57 = .ok (.goto 4, 3) := by decide +kernel
theorem dX12_count_60 : decode cX12_count 60 = .ok (.iconst 0, 1) := by decide +kernel
theorem dX12_count_61 : decode cX12_count 61 = .ok (.iadd, 1) := by decide +kernel
theorem dX12_count_62 : decode cX12_count 62 = .ok (.istore_n 3, 1) := by decide +kernel
theorem dX12_count_63 : decode cX12_count 63 = .ok (.iinc 5 1, 3) := by decide +kernel
theorem dX12_count_66 : decode cX12_count 66 = .ok (.goto (-34), 3) := by decide +kernel
theorem dX12_count_69 : decode cX12_count 69 = .ok (.iinc 4 1, 3) := by decide +kernel
theorem dX12_count_72 : decode cX12_count 72 = .ok (.goto (-60), 3) := by decide +kernel
theorem dX12_count_75 : decode cX12_count 75 = .ok (.iload_n 1, 1) := by decide +kernel
theorem dX12_count_76 : decode cX12_count 76 = .ok (.tableswitch 55 0 4 #[36, 41, 43, 48, 50], 36) := by decide +kernel
theorem dX12_count_112 : decode cX12_count 112 = .ok (.aload_n 0, 1) := by decide +kernel
theorem dX12_count_113 : decode cX12_count 113 = .ok (.getfield 72, 3) := by decide +kernel
theorem dX12_count_116 : decode cX12_count 116 = .ok (.ireturn, 1) := by decide +kernel
theorem dX12_count_117 : decode cX12_count 117 = .ok (.iload_n 2, 1) := by decide +kernel
theorem dX12_count_118 : decode cX12_count 118 = .ok (.ireturn, 1) := by decide +kernel
theorem dX12_count_119 : decode cX12_count 119 = .ok (.aload_n 0, 1) := by decide +kernel
theorem dX12_count_120 : decode cX12_count 120 = .ok (.invokevirtual 111, 3) := by decide +kernel
theorem dX12_count_123 : decode cX12_count 123 = .ok (.ireturn, 1) := by decide +kernel
theorem dX12_count_124 : decode cX12_count 124 = .ok (.iload_n 3, 1) := by decide +kernel
theorem dX12_count_125 : decode cX12_count 125 = .ok (.ireturn, 1) := by decide +kernel
theorem dX12_count_126 : decode cX12_count 126 = .ok (.aload_n 0, 1) := by decide +kernel
theorem dX12_count_127 : decode cX12_count 127 = .ok (.invokevirtual 221, 3) := by decide +kernel
theorem dX12_count_130 : decode cX12_count 130 = .ok (.ireturn, 1) := by decide +kernel
theorem dX12_count_131 : decode cX12_count 131 = .ok (.iconst (-1), 1) := by decide +kernel
theorem dX12_count_132 : decode cX12_count 132 = .ok (.ireturn, 1) := by decide +kernel
set_option maxRecDepth 20000 in
theorem ggX12_wrongSort_X12_wrongRow : GoodIn wsX12_wrongSort wsX12_wrongRow := goodIn_r _ [6, 7, 8, 9, 10, 5, 11, 12, 13, 14, 15, 16, 17, 18, 19, 20, 21, 22, 23, 24, 25, 26, 27, 28, 29, 30, 31, 32, 33, 34, 35, 36, 37, 38, 39, 40] (by decide +kernel) (by decide +kernel)
set_option maxRecDepth 20000 in
theorem gX12_wrongSort_X12_wrongRow : GoodIn wsX12_wrongSort (wsV RX12 244 RX12 yX12_wrongRow wsX12_wrongRow) := goodIn_app (goodIn_of _ (by decide +kernel)) ggX12_wrongSort_X12_wrongRow
theorem dX12_wrongSort_0 : decode cX12_wrongSort 0 = .ok (.aload_n 0, 1) := by decide +kernel
theorem dX12_wrongSort_1 : decode cX12_wrongSort 1 = .ok (.iload_n 1, 1) := by decide +kernel
theorem dX12_wrongSort_2 : decode cX12_wrongSort 2 = .ok (.invokevirtual 244, 3) := by decide +kernel
theorem dX12_wrongSort_5 : decode cX12_wrongSort 5 = .ok (.ifCond .ge 11, 3) := by decide +kernel
theorem dX12_wrongSort_8 : decode cX12_wrongSort 8 = .ok (.aload_n 0, 1) := by decide +kernel
theorem dX12_wrongSort_9 : decode cX12_wrongSort 9 = .ok (.iload_n 1, 1) := by decide +kernel
theorem dX12_wrongSort_10 : decode cX12_wrongSort 10 = .ok (.invokevirtual 244, 3) := by decide +kernel
theorem dX12_wrongSort_13 : decode cX12_wrongSort 13 = .ok (.goto 19, 3) := by decide +kernel
theorem dX12_wrongSort_16 : decode cX12_wrongSort 16 = .ok (.aload_n 0, 1) := by decide +kernel
theorem dX12_wrongSort_17 : decode cX12_wrongSort 17 = .ok (.getfield 49, 3) := by decide +kernel
theorem dX12_wrongSort_20 : decode cX12_wrongSort 20 = .ok (.iload_n 1, 1) := by decide +kernel
theorem dX12_wrongSort_21 : decode cX12_wrongSort 21 = .ok (.iaload, 1) := by decide +kernel
theorem dX12_wrongSort_22 : decode cX12_wrongSort 22 = .ok (.iload_n 2, 1) := by decide +kernel
theorem dX12_wrongSort_23 : decode cX12_wrongSort 23 = .ok (.if_icmp .eq 8, 3) := by decide +kernel
theorem dX12_wrongSort_26 : decode cX12_wrongSort 26 = .ok (.bipush (-12), 2) := by decide +kernel
theorem dX12_wrongSort_28 : decode cX12_wrongSort 28 = .ok (.goto 4, 3) := by decide +kernel
theorem dX12_wrongSort_31 : decode cX12_wrongSort 31 = .ok (.iconst 0, 1) := by decide +kernel
theorem dX12_wrongSort_32 : decode cX12_wrongSort 32 = .ok (.ireturn, 1) := by decide +kernel
set_option maxRecDepth 20000 in
theorem ggX12_keep_X12_in : GoodIn wsX12_keep wsX12_in := goodIn_r _ [10] (by decide +kernel) (by decide +kernel)
set_option maxRecDepth 20000 in
theorem gX12_keep_X12_in : GoodIn wsX12_keep (va_wsS RX12 68 yX12_in wsX12_in) := goodIn_app (goodIn_of _ (by decide +kernel)) ggX12_keep_X12_in
theorem dX12_keep_0 : decode cX12_keep 0 = .ok (.aload_n 0, 1) := by decide +kernel
theorem dX12_keep_1 : decode cX12_keep 1 = .ok (.iconst 0, 1) := by decide +kernel
theorem dX12_keep_2 : decode cX12_keep 2 = .ok (.putfield 62, 3) := by decide +kernel
theorem dX12_keep_5 : decode cX12_keep 5 = .ok (.iload_n 1, 1) := by decide +kernel
theorem dX12_keep_6 : decode cX12_keep 6 = .ok (.i2l, 1) := by decide +kernel
theorem dX12_keep_7 : decode cX12_keep 7 = .ok (.lconst 0, 1) := by decide +kernel
theorem dX12_keep_8 : decode cX12_keep 8 = .ok (.ldc2_w 169, 3) := by decide +kernel
theorem dX12_keep_11 : decode cX12_keep 11 = .ok (.invokestatic 68, 3) := by decide +kernel
theorem dX12_keep_14 : decode cX12_keep 14 = .ok (.ifCond .eq 43, 3) := by decide +kernel
theorem dX12_keep_17 : decode cX12_keep 17 = .ok (.iload_n 2, 1) := by decide +kernel
theorem dX12_keep_18 : decode cX12_keep 18 = .ok (.i2l, 1) := by decide +kernel
theorem dX12_keep_19 : decode cX12_keep 19 = .ok (.lconst 0, 1) := by decide +kernel
theorem dX12_keep_20 : decode cX12_keep 20 = .ok (.lconst 1, 1) := by decide +kernel
theorem dX12_keep_21 : decode cX12_keep 21 = .ok (.invokestatic 68, 3) := by decide +kernel
theorem dX12_keep_24 : decode cX12_keep 24 = .ok (.ifCond .eq 33, 3) := by decide +kernel
theorem dX12_keep_27 : decode cX12_keep 27 = .ok (.iload_n 2, 1) := by decide +kernel
theorem dX12_keep_28 : decode cX12_keep 28 = .ok (.iconst 1, 1) := by decide +kernel
theorem dX12_keep_29 : decode cX12_keep 29 = .ok (.if_icmp .ne 30, 3) := by decide +kernel
theorem dX12_keep_32 : decode cX12_keep 32 = .ok (.iload_n 3, 1) := by decide +kernel
theorem dX12_keep_33 : decode cX12_keep 33 = .ok (.i2l, 1) := by decide +kernel
theorem dX12_keep_34 : decode cX12_keep 34 = .ok (.lconst 0, 1) := by decide +kernel
theorem dX12_keep_35 : decode cX12_keep 35 = .ok (.ldc2_w 169, 3) := by decide +kernel
theorem dX12_keep_38 : decode cX12_keep 38 = .ok (.invokestatic 68, 3) := by decide +kernel
theorem dX12_keep_41 : decode cX12_keep 41 = .ok (.ifCond .eq 16, 3) := by decide +kernel
theorem dX12_keep_44 : decode cX12_keep 44 = .ok (.iload 4, 2) := by decide +kernel
theorem dX12_keep_46 : decode cX12_keep 46 = .ok (.i2l, 1) := by decide +kernel
theorem dX12_keep_47 : decode cX12_keep 47 = .ok (.lconst 0, 1) := by decide +kernel
theorem dX12_keep_48 : decode cX12_keep 48 = .ok (.ldc2_w 174, 3) := by decide +kernel
theorem dX12_keep_51 : decode cX12_keep 51 = .ok (.invokestatic 68, 3) := by decide +kernel
theorem dX12_keep_54 : decode cX12_keep 54 = .ok (.ifCond .ne 5, 3) := by decide +kernel
theorem dX12_keep_57 : decode cX12_keep 57 = .ok (.iconst (-1), 1) := by decide +kernel
theorem dX12_keep_58 : decode cX12_keep 58 = .ok (.ireturn, 1) := by decide +kernel
theorem dX12_keep_59 : decode cX12_keep 59 = .ok (.aload_n 0, 1) := by decide +kernel
theorem dX12_keep_60 : decode cX12_keep 60 = .ok (.getfield 40, 3) := by decide +kernel
theorem dX12_keep_63 : decode cX12_keep 63 = .ok (.iload_n 1, 1) := by decide +kernel
theorem dX12_keep_64 : decode cX12_keep 64 = .ok (.iload_n 2, 1) := by decide +kernel
theorem dX12_keep_65 : decode cX12_keep 65 = .ok (.iastore, 1) := by decide +kernel
theorem dX12_keep_66 : decode cX12_keep 66 = .ok (.aload_n 0, 1) := by decide +kernel
theorem dX12_keep_67 : decode cX12_keep 67 = .ok (.getfield 43, 3) := by decide +kernel
theorem dX12_keep_70 : decode cX12_keep 70 = .ok (.iload_n 1, 1) := by decide +kernel
theorem dX12_keep_71 : decode cX12_keep 71 = .ok (.iload_n 2, 1) := by decide +kernel
theorem dX12_keep_72 : decode cX12_keep 72 = .ok (.iconst 1, 1) := by decide +kernel
theorem dX12_keep_73 : decode cX12_keep 73 = .ok (.if_icmp .ne 7, 3) := by decide +kernel
theorem dX12_keep_76 : decode cX12_keep 76 = .ok (.iload_n 3, 1) := by decide +kernel
theorem dX12_keep_77 : decode cX12_keep 77 = .ok (.goto 4, 3) := by decide +kernel
theorem dX12_keep_80 : decode cX12_keep 80 = .ok (.iconst 0, 1) := by decide +kernel
theorem dX12_keep_81 : decode cX12_keep 81 = .ok (.iastore, 1) := by decide +kernel
theorem dX12_keep_82 : decode cX12_keep 82 = .ok (.aload_n 0, 1) := by decide +kernel
theorem dX12_keep_83 : decode cX12_keep 83 = .ok (.getfield 46, 3) := by decide +kernel
theorem dX12_keep_86 : decode cX12_keep 86 = .ok (.iload_n 1, 1) := by decide +kernel
theorem dX12_keep_87 : decode cX12_keep 87 = .ok (.iload_n 2, 1) := by decide +kernel
theorem dX12_keep_88 : decode cX12_keep 88 = .ok (.iconst 1, 1) := by decide +kernel
theorem dX12_keep_89 : decode cX12_keep 89 = .ok (.if_icmp .ne 8, 3) := by decide +kernel
theorem dX12_keep_92 : decode cX12_keep 92 = .ok (.iload 4, 2) := by decide +kernel
theorem dX12_keep_94 : decode cX12_keep 94 = .ok (.goto 4, 3) := by decide +kernel
theorem dX12_keep_97 : decode cX12_keep 97 = .ok (.iconst 0, 1) := by decide +kernel
theorem dX12_keep_98 : decode cX12_keep 98 = .ok (.iastore, 1) := by decide +kernel
theorem dX12_keep_99 : decode cX12_keep 99 = .ok (.iconst 0, 1) := by decide +kernel
theorem dX12_keep_100 : decode cX12_keep 100 = .ok (.ireturn, 1) := by decide +kernel
set_option maxRecDepth 20000 in
theorem ggX12_wrongRow_X12_in : GoodIn wsX12_wrongRow wsX12_in := goodIn_r _ [6] (by decide +kernel) (by decide +kernel)
set_option maxRecDepth 20000 in
theorem gX12_wrongRow_X12_in : GoodIn wsX12_wrongRow (va_wsS RX12 68 yX12_in wsX12_in) := goodIn_app (goodIn_of _ (by decide +kernel)) ggX12_wrongRow_X12_in
theorem dX12_wrongRow_0 : decode cX12_wrongRow 0 = .ok (.iload_n 1, 1) := by decide +kernel
theorem dX12_wrongRow_1 : decode cX12_wrongRow 1 = .ok (.i2l, 1) := by decide +kernel
theorem dX12_wrongRow_2 : decode cX12_wrongRow 2 = .ok (.lconst 0, 1) := by decide +kernel
theorem dX12_wrongRow_3 : decode cX12_wrongRow 3 = .ok (.ldc2_w 169, 3) := by decide +kernel
theorem dX12_wrongRow_6 : decode cX12_wrongRow 6 = .ok (.invokestatic 68, 3) := by decide +kernel
theorem dX12_wrongRow_9 : decode cX12_wrongRow 9 = .ok (.ifCond .ne 7, 3) := by decide +kernel
theorem dX12_wrongRow_12 : decode cX12_wrongRow 12 = .ok (.iconst (-1), 1) := by decide +kernel
theorem dX12_wrongRow_13 : decode cX12_wrongRow 13 = .ok (.goto 33, 3) := by decide +kernel
theorem dX12_wrongRow_16 : decode cX12_wrongRow 16 = .ok (.aload_n 0, 1) := by decide +kernel
theorem dX12_wrongRow_17 : decode cX12_wrongRow 17 = .ok (.getfield 40, 3) := by decide +kernel
theorem dX12_wrongRow_20 : decode cX12_wrongRow 20 = .ok (.iload_n 1, 1) := by decide +kernel
theorem dX12_wrongRow_21 : decode cX12_wrongRow 21 = .ok (.iaload, 1) := by decide +kernel
theorem dX12_wrongRow_22 : decode cX12_wrongRow 22 = .ok (.ifCond .ne 8, 3) := by decide +kernel
theorem dX12_wrongRow_25 : decode cX12_wrongRow 25 = .ok (.bipush (-11), 2) := by decide +kernel
theorem dX12_wrongRow_27 : decode cX12_wrongRow 27 = .ok (.goto 19, 3) := by decide +kernel
theorem dX12_wrongRow_30 : decode cX12_wrongRow 30 = .ok (.aload_n 0, 1) := by decide +kernel
theorem dX12_wrongRow_31 : decode cX12_wrongRow 31 = .ok (.getfield 40, 3) := by decide +kernel
theorem dX12_wrongRow_34 : decode cX12_wrongRow 34 = .ok (.iload_n 1, 1) := by decide +kernel
theorem dX12_wrongRow_35 : decode cX12_wrongRow 35 = .ok (.iaload, 1) := by decide +kernel
theorem dX12_wrongRow_36 : decode cX12_wrongRow 36 = .ok (.iconst 2, 1) := by decide +kernel
theorem dX12_wrongRow_37 : decode cX12_wrongRow 37 = .ok (.if_icmp .eq 8, 3) := by decide +kernel
theorem dX12_wrongRow_40 : decode cX12_wrongRow 40 = .ok (.bipush (-12), 2) := by decide +kernel
theorem dX12_wrongRow_42 : decode cX12_wrongRow 42 = .ok (.goto 4, 3) := by decide +kernel
theorem dX12_wrongRow_45 : decode cX12_wrongRow 45 = .ok (.iconst 0, 1) := by decide +kernel
theorem dX12_wrongRow_46 : decode cX12_wrongRow 46 = .ok (.ireturn, 1) := by decide +kernel
theorem dX12_narrowed_0 : decode cX12_narrowed 0 = .ok (.iload_n 1, 1) := by decide +kernel
theorem dX12_narrowed_1 : decode cX12_narrowed 1 = .ok (.ifCond .ne 9, 3) := by decide +kernel
theorem dX12_narrowed_4 : decode cX12_narrowed 4 = .ok (.iload_n 0, 1) := by decide +kernel
theorem dX12_narrowed_5 : decode cX12_narrowed 5 = .ok (.i2b, 1) := by decide +kernel
theorem dX12_narrowed_6 : decode cX12_narrowed 6 = .ok (.i2l, 1) := by decide +kernel
theorem dX12_narrowed_7 : decode cX12_narrowed 7 = .ok (.goto 16, 3) := by decide +kernel
theorem dX12_narrowed_10 : decode cX12_narrowed 10 = .ok (.iload_n 1, 1) := by decide +kernel
theorem dX12_narrowed_11 : decode cX12_narrowed 11 = .ok (.iconst 1, 1) := by decide +kernel
theorem dX12_narrowed_12 : decode cX12_narrowed 12 = .ok (.if_icmp .ne 9, 3) := by decide +kernel
theorem dX12_narrowed_15 : decode cX12_narrowed 15 = .ok (.iload_n 0, 1) := by decide +kernel
theorem dX12_narrowed_16 : decode cX12_narrowed 16 = .ok (.i2s, 1) := by decide +kernel
theorem dX12_narrowed_17 : decode cX12_narrowed 17 = .ok (.i2l, 1) := by decide +kernel
theorem dX12_narrowed_18 : decode cX12_narrowed 18 = .ok (.goto 5, 3) := by decide +kernel
theorem dX12_narrowed_21 : decode cX12_narrowed 21 = .ok (.iload_n 0, 1) := by decide +kernel
theorem dX12_narrowed_22 : decode cX12_narrowed 22 = .ok (.i2l, 1) := by decide +kernel
theorem dX12_narrowed_23 : decode cX12_narrowed 23 = .ok (.lreturn, 1) := by decide +kernel
set_option maxRecDepth 20000 in
theorem ggX12_row_X12_in : GoodIn wsX12_row wsX12_in := goodIn_r _ [11] (by decide +kernel) (by decide +kernel)
set_option maxRecDepth 20000 in
theorem gX12_row_X12_in : GoodIn wsX12_row (va_wsS RX12 68 yX12_in wsX12_in) := goodIn_app (goodIn_of _ (by decide +kernel)) ggX12_row_X12_in
theorem dX12_row_0 : decode cX12_row 0 = .ok (.aload_n 0, 1) := by decide +kernel
theorem dX12_row_1 : decode cX12_row 1 = .ok (.iconst 0, 1) := by decide +kernel
theorem dX12_row_2 : decode cX12_row 2 = .ok (.putfield 62, 3) := by decide +kernel
theorem dX12_row_5 : decode cX12_row 5 = .ok (.iload_n 1, 1) := by decide +kernel
theorem dX12_row_6 : decode cX12_row 6 = .ok (.i2l, 1) := by decide +kernel
theorem dX12_row_7 : decode cX12_row 7 = .ok (.lconst 0, 1) := by decide +kernel
theorem dX12_row_8 : decode cX12_row 8 = .ok (.ldc2_w 169, 3) := by decide +kernel
theorem dX12_row_11 : decode cX12_row 11 = .ok (.invokestatic 68, 3) := by decide +kernel
theorem dX12_row_14 : decode cX12_row 14 = .ok (.ifCond .eq 21, 3) := by decide +kernel
theorem dX12_row_17 : decode cX12_row 17 = .ok (.iload_n 2, 1) := by decide +kernel
theorem dX12_row_18 : decode cX12_row 18 = .ok (.i2l, 1) := by decide +kernel
theorem dX12_row_19 : decode cX12_row 19 = .ok (.lconst 0, 1) := by decide +kernel
theorem dX12_row_20 : decode cX12_row 20 = .ok (.ldc2_w 251, 3) := by decide +kernel
theorem dX12_row_23 : decode cX12_row 23 = .ok (.invokestatic 68, 3) := by decide +kernel
theorem dX12_row_26 : decode cX12_row 26 = .ok (.ifCond .eq 9, 3) := by decide +kernel
theorem dX12_row_29 : decode cX12_row 29 = .ok (.iload_n 3, 1) := by decide +kernel
theorem dX12_row_30 : decode cX12_row 30 = .ok (.bipush 100, 2) := by decide +kernel
theorem dX12_row_32 : decode cX12_row 32 = .ok (.if_icmp .le 5, 3) := by decide +kernel
theorem dX12_row_35 : decode cX12_row 35 = .ok (.iconst (-1), 1) := by decide +kernel
theorem dX12_row_36 : decode cX12_row 36 = .ok (.ireturn, 1) := by decide +kernel
theorem dX12_row_37 : decode cX12_row 37 = .ok (.iload_n 3, 1) := by decide +kernel
theorem dX12_row_38 : decode cX12_row 38 = .ok (.ifCond .ge 6, 3) := by decide +kernel
theorem dX12_row_41 : decode cX12_row 41 = .ok (.bipush (-14), 2) := by decide +kernel
theorem dX12_row_43 : decode cX12_row 43 = .ok (.ireturn, 1) := by decide +kernel
theorem dX12_row_44 : decode cX12_row 44 = .ok (.aload_n 0, 1) := by decide +kernel
theorem dX12_row_45 : decode cX12_row 45 = .ok (.getfield 40, 3) := by decide +kernel
theorem dX12_row_48 : decode cX12_row 48 = .ok (.iload_n 1, 1) := by decide +kernel
theorem dX12_row_49 : decode cX12_row 49 = .ok (.iconst 2, 1) := by decide +kernel
theorem dX12_row_50 : decode cX12_row 50 = .ok (.iastore, 1) := by decide +kernel
theorem dX12_row_51 : decode cX12_row 51 = .ok (.aload_n 0, 1) := by decide +kernel
theorem dX12_row_52 : decode cX12_row 52 = .ok (.getfield 49, 3) := by decide +kernel
theorem dX12_row_55 : decode cX12_row 55 = .ok (.iload_n 1, 1) := by decide +kernel
theorem dX12_row_56 : decode cX12_row 56 = .ok (.iload_n 2, 1) := by decide +kernel
theorem dX12_row_57 : decode cX12_row 57 = .ok (.iastore, 1) := by decide +kernel
theorem dX12_row_58 : decode cX12_row 58 = .ok (.aload_n 0, 1) := by decide +kernel
theorem dX12_row_59 : decode cX12_row 59 = .ok (.getfield 52, 3) := by decide +kernel
theorem dX12_row_62 : decode cX12_row 62 = .ok (.iload_n 1, 1) := by decide +kernel
theorem dX12_row_63 : decode cX12_row 63 = .ok (.iload_n 3, 1) := by decide +kernel
theorem dX12_row_64 : decode cX12_row 64 = .ok (.iastore, 1) := by decide +kernel
theorem dX12_row_65 : decode cX12_row 65 = .ok (.iconst 0, 1) := by decide +kernel
theorem dX12_row_66 : decode cX12_row 66 = .ok (.istore 4, 2) := by decide +kernel
theorem dX12_row_68 : decode cX12_row 68 = .ok (.iload 4, 2) := by decide +kernel
theorem dX12_row_70 : decode cX12_row 70 = .ok (.bipush 100, 2) := by decide +kernel
theorem dX12_row_72 : decode cX12_row 72 = .ok (.if_icmp .ge 22, 3) := by decide +kernel
theorem dX12_row_75 : decode cX12_row 75 = .ok (.aload_n 0, 1) := by decide +kernel
theorem dX12_row_76 : decode cX12_row 76 = .ok (.getfield 55, 3) := by decide +kernel
theorem dX12_row_79 : decode cX12_row 79 = .ok (.bipush 100, 2) := by decide +kernel
theorem dX12_row_81 : decode cX12_row 81 = .ok (.iload_n 1, 1) := by decide +kernel
theorem dX12_row_82 : decode cX12_row 82 = .ok (.imul, 1) := by decide +kernel
theorem dX12_row_83 : decode cX12_row 83 = .ok (.iload 4, 2) := by decide +kernel
theorem dX12_row_85 : decode cX12_row 85 = .ok (.iadd, 1) := by decide +kernel
theorem dX12_row_86 : decode cX12_row 86 = .ok (.lconst 0, 1) := by decide +kernel
theorem dX12_row_87 : decode cX12_row 87 = .ok (.lastore, 1) := by decide +kernel
theorem dX12_row_88 : decode cX12_row 88 = .ok (.iinc 4 1, 3) := by decide +kernel
theorem dX12_row_91 : decode cX12_row 91 = .ok (.goto (-23), 3) := by decide +kernel
theorem dX12_row_94 : decode cX12_row 94 = .ok (.iconst 0, 1) := by decide +kernel
theorem dX12_row_95 : decode cX12_row 95 = .ok (.ireturn, 1) := by decide +kernel
set_option maxRecDepth 20000 in
theorem ggX12_put_X12_wrongRow : GoodIn wsX12_put wsX12_wrongRow := goodIn_r _ [9, 10, 11, 12, 13, 8, 14, 18, 19, 20, 21, 22, 23, 24, 25, 26, 27, 28, 29, 30, 31, 32, 33, 34, 35, 36, 37, 38, 39, 40, 41, 42, 43, 44, 45, 46] (by decide +kernel) (by decide +kernel)
set_option maxRecDepth 20000 in
theorem gX12_put_X12_wrongRow : GoodIn wsX12_put (wsV RX12 244 RX12 yX12_wrongRow wsX12_wrongRow) := goodIn_app (goodIn_of _ (by decide +kernel)) ggX12_put_X12_wrongRow
set_option maxRecDepth 20000 in
theorem ggX12_put_X12_in : GoodIn wsX12_put wsX12_in := goodIn_r _ [14] (by decide +kernel) (by decide +kernel)
set_option maxRecDepth 20000 in
theorem gX12_put_X12_in : GoodIn wsX12_put (va_wsS RX12 68 yX12_in wsX12_in) := goodIn_app (goodIn_of _ (by decide +kernel)) ggX12_put_X12_in
set_option maxRecDepth 20000 in
theorem ggX12_put_X12_narrowed : GoodIn wsX12_put wsX12_narrowed := goodIn_r _ [17] (by decide +kernel) (by decide +kernel)
set_option maxRecDepth 20000 in
theorem gX12_put_X12_narrowed : GoodIn wsX12_put (va_wsS RX12 253 yX12_narrowed wsX12_narrowed) := goodIn_app (goodIn_of _ (by decide +kernel)) ggX12_put_X12_narrowed
theorem dX12_put_0 : decode cX12_put 0 = .ok (.aload_n 0, 1) := by decide +kernel
theorem dX12_put_1 : decode cX12_put 1 = .ok (.iconst 0, 1) := by decide +kernel
theorem dX12_put_2 : decode cX12_put 2 = .ok (.putfield 62, 3) := by decide +kernel
theorem dX12_put_5 : decode cX12_put 5 = .ok (.aload_n 0, 1) := by decide +kernel
theorem dX12_put_6 : decode cX12_put 6 = .ok (.iload_n 1, 1) := by decide +kernel
theorem dX12_put_7 : decode cX12_put 7 = .ok (.invokevirtual 244, 3) := by decide +kernel
theorem dX12_put_10 : decode cX12_put 10 = .ok (.istore 4, 2) := by decide +kernel
theorem dX12_put_12 : decode cX12_put 12 = .ok (.iload 4, 2) := by decide +kernel
theorem dX12_put_14 : decode cX12_put 14 = .ok (.ifCond .ge 6, 3) := by decide +kernel
theorem dX12_put_17 : decode cX12_put 17 = .ok (.iload 4, 2) := by decide +kernel
theorem dX12_put_19 : decode cX12_put 19 = .ok (.ireturn, 1) := by decide +kernel
theorem dX12_put_20 : decode cX12_put 20 = .ok (.iload_n 2, 1) := by decide +kernel
theorem dX12_put_21 : decode cX12_put 21 = .ok (.i2l, 1) := by decide +kernel
theorem dX12_put_22 : decode cX12_put 22 = .ok (.lconst 0, 1) := by decide +kernel
theorem dX12_put_23 : decode cX12_put 23 = .ok (.aload_n 0, 1) := by decide +kernel
theorem dX12_put_24 : decode cX12_put 24 = .ok (.getfield 52, 3) := by decide +kernel
theorem dX12_put_27 : decode cX12_put 27 = .ok (.iload_n 1, 1) := by decide +kernel
theorem dX12_put_28 : decode cX12_put 28 = .ok (.iaload, 1) := by decide +kernel
theorem dX12_put_29 : decode cX12_put 29 = .ok (.iconst 1, 1) := by decide +kernel
theorem dX12_put_30 : decode cX12_put 30 = .ok (.isub, 1) := by decide +kernel
theorem dX12_put_31 : decode cX12_put 31 = .ok (.i2l, 1) := by decide +kernel
theorem dX12_put_32 : decode cX12_put 32 = .ok (.invokestatic 68, 3) := by decide +kernel
theorem dX12_put_35 : decode cX12_put 35 = .ok (.ifCond .ne 6, 3) := by decide +kernel
theorem dX12_put_38 : decode cX12_put 38 = .ok (.bipush (-13), 2) := by decide +kernel
theorem dX12_put_40 : decode cX12_put 40 = .ok (.ireturn, 1) := by decide +kernel
theorem dX12_put_41 : decode cX12_put 41 = .ok (.aload_n 0, 1) := by decide +kernel
theorem dX12_put_42 : decode cX12_put 42 = .ok (.getfield 55, 3) := by decide +kernel
theorem dX12_put_45 : decode cX12_put 45 = .ok (.bipush 100, 2) := by decide +kernel
theorem dX12_put_47 : decode cX12_put 47 = .ok (.iload_n 1, 1) := by decide +kernel
theorem dX12_put_48 : decode cX12_put 48 = .ok (.imul, 1) := by decide +kernel
theorem dX12_put_49 : decode cX12_put 49 = .ok (.iload_n 2, 1) := by decide +kernel
theorem dX12_put_50 : decode cX12_put 50 = .ok (.iadd, 1) := by decide +kernel
theorem dX12_put_51 : decode cX12_put 51 = .ok (.iload_n 3, 1) := by decide +kernel
theorem dX12_put_52 : decode cX12_put 52 = .ok (.aload_n 0, 1) := by decide +kernel
theorem dX12_put_53 : decode cX12_put 53 = .ok (.getfield 49, 3) := by decide +kernel
theorem dX12_put_56 : decode cX12_put 56 = .ok (.iload_n 1, 1) := by decide +kernel
theorem dX12_put_57 : decode cX12_put 57 = .ok (.iaload, 1) := by decide +kernel
theorem dX12_put_58 : decode cX12_put 58 = .ok (.invokestatic 253, 3) := by decide +kernel
theorem dX12_put_61 : decode cX12_put 61 = .ok (.lastore, 1) := by decide +kernel
theorem dX12_put_62 : decode cX12_put 62 = .ok (.iconst 0, 1) := by decide +kernel
theorem dX12_put_63 : decode cX12_put 63 = .ok (.ireturn, 1) := by decide +kernel
set_option maxRecDepth 20000 in
theorem ggX12_element_X12_wrongRow : GoodIn wsX12_element wsX12_wrongRow := goodIn_r _ [8, 9, 10, 11, 12, 7, 13, 14, 15, 16, 17, 18, 19, 20, 21, 22, 23, 24, 25, 26, 27, 28, 29, 30, 31, 32, 33, 34, 35, 36, 37, 38, 39, 40, 41, 42] (by decide +kernel) (by decide +kernel)
set_option maxRecDepth 20000 in
theorem gX12_element_X12_wrongRow : GoodIn wsX12_element (wsV RX12 244 RX12 yX12_wrongRow wsX12_wrongRow) := goodIn_app (goodIn_of _ (by decide +kernel)) ggX12_element_X12_wrongRow
set_option maxRecDepth 20000 in
theorem ggX12_element_X12_in : GoodIn wsX12_element wsX12_in := goodIn_r _ [13] (by decide +kernel) (by decide +kernel)
set_option maxRecDepth 20000 in
theorem gX12_element_X12_in : GoodIn wsX12_element (va_wsS RX12 68 yX12_in wsX12_in) := goodIn_app (goodIn_of _ (by decide +kernel)) ggX12_element_X12_in
theorem dX12_element_0 : decode cX12_element 0 = .ok (.aload_n 0, 1) := by decide +kernel
theorem dX12_element_1 : decode cX12_element 1 = .ok (.iload_n 1, 1) := by decide +kernel
theorem dX12_element_2 : decode cX12_element 2 = .ok (.invokevirtual 244, 3) := by decide +kernel
theorem dX12_element_5 : decode cX12_element 5 = .ok (.istore_n 3, 1) := by decide +kernel
theorem dX12_element_6 : decode cX12_element 6 = .ok (.aload_n 0, 1) := by decide +kernel
theorem dX12_element_7 : decode cX12_element 7 = .ok (.iload_n 3, 1) := by decide +kernel
theorem dX12_element_8 : decode cX12_element 8 = .ok (.iconst (-1), 1) := by decide +kernel
theorem dX12_element_9 : decode cX12_element 9 = .ok (.if_icmp .ne 7, 3) := by decide +kernel
theorem dX12_element_12 : decode cX12_element 12 = .ok (.iconst 1, 1) := by decide +kernel
theorem dX12_element_13 : decode cX12_element 13 = .ok (.goto 30, 3) := by decide +kernel
theorem dX12_element_16 : decode cX12_element 16 = .ok (.iload_n 3, 1) := by decide +kernel
theorem dX12_element_17 : decode cX12_element 17 = .ok (.ifCond .lt 21, 3) := by decide +kernel
theorem dX12_element_20 : decode cX12_element 20 = .ok (.iload_n 2, 1) := by decide +kernel
theorem dX12_element_21 : decode cX12_element 21 = .ok (.i2l, 1) := by decide +kernel
theorem dX12_element_22 : decode cX12_element 22 = .ok (.lconst 0, 1) := by decide +kernel
theorem dX12_element_23 : decode cX12_element 23 = .ok (.aload_n 0, 1) := by decide +kernel
theorem dX12_element_24 : decode cX12_element 24 = .ok (.getfield 52, 3) := by decide +kernel
theorem dX12_element_27 : decode cX12_element 27 = .ok (.iload_n 1, 1) := by decide +kernel
theorem dX12_element_28 : decode cX12_element 28 = .ok (.iaload, 1) := by decide +kernel
theorem dX12_element_29 : decode cX12_element 29 = .ok (.iconst 1, 1) := by decide +kernel
theorem dX12_element_30 : decode cX12_element 30 = .ok (.isub, 1) := by decide +kernel
theorem dX12_element_31 : decode cX12_element 31 = .ok (.i2l, 1) := by decide +kernel
theorem dX12_element_32 : decode cX12_element 32 = .ok (.invokestatic 68, 3) := by decide +kernel
theorem dX12_element_35 : decode cX12_element 35 = .ok (.ifCond .ne 7, 3) := by decide +kernel
theorem dX12_element_38 : decode cX12_element 38 = .ok (.iconst 2, 1) := by decide +kernel
theorem dX12_element_39 : decode cX12_element 39 = .ok (.goto 4, 3) := by decide +kernel
theorem dX12_element_42 : decode cX12_element 42 = .ok (.iconst 0, 1) := by decide +kernel
theorem dX12_element_43 : decode cX12_element 43 = .ok (.putfield 62, 3) := by decide +kernel
theorem dX12_element_46 : decode cX12_element 46 = .ok (.aload_n 0, 1) := by decide +kernel
theorem dX12_element_47 : decode cX12_element 47 = .ok (.getfield 62, 3) := by decide +kernel
theorem dX12_element_50 : decode cX12_element 50 = .ok (.ifCond .le 7, 3) := by decide +kernel
theorem dX12_element_53 : decode cX12_element 53 = .ok (.lconst 0, 1) := by decide +kernel
theorem dX12_element_54 : decode cX12_element 54 = .ok (.goto 14, 3) := by decide +kernel
theorem dX12_element_57 : decode cX12_element 57 = .ok (.aload_n 0, 1) := by decide +kernel
theorem dX12_element_58 : decode cX12_element 58 = .ok (.getfield 55, 3) := by decide +kernel
theorem dX12_element_61 : decode cX12_element 61 = .ok (.bipush 100, 2) := by decide +kernel
theorem dX12_element_63 : decode cX12_element 63 = .ok (.iload_n 1, 1) := by decide +kernel
theorem dX12_element_64 : decode cX12_element 64 = .ok (.imul, 1) := by decide +kernel
theorem dX12_element_65 : decode cX12_element 65 = .ok (.iload_n 2, 1) := by decide +kernel
theorem dX12_element_66 : decode cX12_element 66 = .ok (.iadd, 1) := by decide +kernel
theorem dX12_element_67 : decode cX12_element 67 = .ok (.laload, 1) := by decide +kernel
theorem dX12_element_68 : decode cX12_element 68 = .ok (.lreturn, 1) := by decide +kernel
set_option maxRecDepth 20000 in
theorem ggX12_copy_X12_in : GoodIn wsX12_copy wsX12_in := goodIn_r _ [11] (by decide +kernel) (by decide +kernel)
set_option maxRecDepth 20000 in
theorem gX12_copy_X12_in : GoodIn wsX12_copy (va_wsS RX12 68 yX12_in wsX12_in) := goodIn_app (goodIn_of _ (by decide +kernel)) ggX12_copy_X12_in
theorem dX12_copy_0 : decode cX12_copy 0 = .ok (.aload_n 0, 1) := by decide +kernel
theorem dX12_copy_1 : decode cX12_copy 1 = .ok (.iconst 0, 1) := by decide +kernel
theorem dX12_copy_2 : decode cX12_copy 2 = .ok (.putfield 62, 3) := by decide +kernel
theorem dX12_copy_5 : decode cX12_copy 5 = .ok (.iload_n 1, 1) := by decide +kernel
theorem dX12_copy_6 : decode cX12_copy 6 = .ok (.i2l, 1) := by decide +kernel
theorem dX12_copy_7 : decode cX12_copy 7 = .ok (.lconst 0, 1) := by decide +kernel
theorem dX12_copy_8 : decode cX12_copy 8 = .ok (.ldc2_w 169, 3) := by decide +kernel
theorem dX12_copy_11 : decode cX12_copy 11 = .ok (.invokestatic 68, 3) := by decide +kernel
theorem dX12_copy_14 : decode cX12_copy 14 = .ok (.ifCond .eq 15, 3) := by decide +kernel
theorem dX12_copy_17 : decode cX12_copy 17 = .ok (.iload_n 3, 1) := by decide +kernel
theorem dX12_copy_18 : decode cX12_copy 18 = .ok (.i2l, 1) := by decide +kernel
theorem dX12_copy_19 : decode cX12_copy 19 = .ok (.lconst 0, 1) := by decide +kernel
theorem dX12_copy_20 : decode cX12_copy 20 = .ok (.ldc2_w 169, 3) := by decide +kernel
theorem dX12_copy_23 : decode cX12_copy 23 = .ok (.invokestatic 68, 3) := by decide +kernel
theorem dX12_copy_26 : decode cX12_copy 26 = .ok (.ifCond .ne 5, 3) := by decide +kernel
theorem dX12_copy_29 : decode cX12_copy 29 = .ok (.iconst (-1), 1) := by decide +kernel
theorem dX12_copy_30 : decode cX12_copy 30 = .ok (.ireturn, 1) := by decide +kernel
theorem dX12_copy_31 : decode cX12_copy 31 = .ok (.aload_n 0, 1) := by decide +kernel
theorem dX12_copy_32 : decode cX12_copy 32 = .ok (.getfield 40, 3) := by decide +kernel
theorem dX12_copy_35 : decode cX12_copy 35 = .ok (.iload_n 1, 1) := by decide +kernel
theorem dX12_copy_36 : decode cX12_copy 36 = .ok (.iaload, 1) := by decide +kernel
theorem dX12_copy_37 : decode cX12_copy 37 = .ok (.ifCond .eq 12, 3) := by decide +kernel
theorem dX12_copy_40 : decode cX12_copy 40 = .ok (.aload_n 0, 1) := by decide +kernel
theorem dX12_copy_41 : decode cX12_copy 41 = .ok (.getfield 40, 3) := by decide +kernel
theorem dX12_copy_44 : decode cX12_copy 44 = .ok (.iload_n 3, 1) := by decide +kernel
theorem dX12_copy_45 : decode cX12_copy 45 = .ok (.iaload, 1) := by decide +kernel
theorem dX12_copy_46 : decode cX12_copy 46 = .ok (.ifCond .ne 6, 3) := by decide +kernel
theorem dX12_copy_49 : decode cX12_copy 49 = .ok (.bipush (-11), 2) := by decide +kernel
theorem dX12_copy_51 : decode cX12_copy 51 = .ok (.ireturn, 1) := by decide +kernel
theorem dX12_copy_52 : decode cX12_copy 52 = .ok (.aload_n 0, 1) := by decide +kernel
theorem dX12_copy_53 : decode cX12_copy 53 = .ok (.getfield 40, 3) := by decide +kernel
theorem dX12_copy_56 : decode cX12_copy 56 = .ok (.iload_n 1, 1) := by decide +kernel
theorem dX12_copy_57 : decode cX12_copy 57 = .ok (.iaload, 1) := by decide +kernel
theorem dX12_copy_58 : decode cX12_copy 58 = .ok (.iconst 2, 1) := by decide +kernel
theorem dX12_copy_59 : decode cX12_copy 59 = .ok (.if_icmp .ne 28, 3) := by decide +kernel
theorem dX12_copy_62 : decode cX12_copy 62 = .ok (.aload_n 0, 1) := by decide +kernel
theorem dX12_copy_63 : decode cX12_copy 63 = .ok (.getfield 40, 3) := by decide +kernel
theorem dX12_copy_66 : decode cX12_copy 66 = .ok (.iload_n 3, 1) := by decide +kernel
theorem dX12_copy_67 : decode cX12_copy 67 = .ok (.iaload, 1) := by decide +kernel
theorem dX12_copy_68 : decode cX12_copy 68 = .ok (.iconst 2, 1) := by decide +kernel
theorem dX12_copy_69 : decode cX12_copy 69 = .ok (.if_icmp .ne 18, 3) := by decide +kernel
theorem dX12_copy_72 : decode cX12_copy 72 = .ok (.aload_n 0, 1) := by decide +kernel
theorem dX12_copy_73 : decode cX12_copy 73 = .ok (.getfield 49, 3) := by decide +kernel
theorem dX12_copy_76 : decode cX12_copy 76 = .ok (.iload_n 1, 1) := by decide +kernel
theorem dX12_copy_77 : decode cX12_copy 77 = .ok (.iaload, 1) := by decide +kernel
theorem dX12_copy_78 : decode cX12_copy 78 = .ok (.aload_n 0, 1) := by decide +kernel
theorem dX12_copy_79 : decode cX12_copy 79 = .ok (.getfield 49, 3) := by decide +kernel
theorem dX12_copy_82 : decode cX12_copy 82 = .ok (.iload_n 3, 1) := by decide +kernel
theorem dX12_copy_83 : decode cX12_copy 83 = .ok (.iaload, 1) := by decide +kernel
theorem dX12_copy_84 : decode cX12_copy 84 = .ok (.if_icmp .eq 6, 3) := by decide +kernel
theorem dX12_copy_87 : decode cX12_copy 87 = .ok (.bipush (-12), 2) := by decide +kernel
theorem dX12_copy_89 : decode cX12_copy 89 = .ok (.ireturn, 1) := by decide +kernel
theorem dX12_copy_90 : decode cX12_copy 90 = .ok (.iload 5, 2) := by decide +kernel
theorem dX12_copy_92 : decode cX12_copy 92 = .ok (.ifCond .lt 39, 3) := by decide +kernel
theorem dX12_copy_95 : decode cX12_copy 95 = .ok (.iload_n 2, 1) := by decide +kernel
theorem dX12_copy_96 : decode cX12_copy 96 = .ok (.ifCond .lt 35, 3) := by decide +kernel
theorem dX12_copy_99 : decode cX12_copy 99 = .ok (.iload 4, 2) := by decide +kernel
theorem dX12_copy_101 : decode cX12_copy 101 = .ok (.ifCond .lt 30, 3) := by decide +kernel
theorem dX12_copy_104 : decode cX12_copy 104 = .ok (.iload_n 2, 1) := by decide +kernel
theorem dX12_copy_105 : decode cX12_copy 105 = .ok (.aload_n 0, 1) := by decide +kernel
theorem dX12_copy_106 : decode cX12_copy 106 = .ok (.getfield 52, 3) := by decide +kernel
theorem dX12_copy_109 : decode cX12_copy 109 = .ok (.iload_n 1, 1) := by decide +kernel
theorem dX12_copy_110 : decode cX12_copy 110 = .ok (.iaload, 1) := by decide +kernel
theorem dX12_copy_111 : decode cX12_copy 111 = .ok (.iload 5, 2) := by decide +kernel
theorem dX12_copy_113 : decode cX12_copy 113 = .ok (.isub, 1) := by decide +kernel
theorem dX12_copy_114 : decode cX12_copy 114 = .ok (.if_icmp .gt 17, 3) := by decide +kernel
theorem dX12_copy_117 : decode cX12_copy 117 = .ok (.iload 4, 2) := by decide +kernel
theorem dX12_copy_119 : decode cX12_copy 119 = .ok (.aload_n 0, 1) := by decide +kernel
theorem dX12_copy_120 : decode cX12_copy 120 = .ok (.getfield 52, 3) := by decide +kernel
theorem dX12_copy_123 : decode cX12_copy 123 = .ok (.iload_n 3, 1) := by decide +kernel
theorem dX12_copy_124 : decode cX12_copy 124 = .ok (.iaload, 1) := by decide +kernel
theorem dX12_copy_125 : decode cX12_copy 125 = .ok (.iload 5, 2) := by decide +kernel
theorem dX12_copy_127 : decode cX12_copy 127 = .ok (.isub, 1) := by decide +kernel
theorem dX12_copy_128 : decode cX12_copy 128 = .ok (.if_icmp .le 6, 3) := by decide +kernel
theorem dX12_copy_131 : decode cX12_copy 131 = .ok (.bipush (-13), 2) := by decide +kernel
theorem dX12_copy_133 : decode cX12_copy 133 = .ok (.ireturn, 1) := by decide +kernel
theorem dX12_copy_134 : decode cX12_copy 134 = .ok (.iconst 0, 1) := by decide +kernel
theorem dX12_copy_135 : decode cX12_copy 135 = .ok (.istore 6, 2) := by decide +kernel
theorem dX12_copy_137 : decode cX12_copy 137 = .ok (.iload 6, 2) := by decide +kernel
theorem dX12_copy_139 : decode cX12_copy 139 = .ok (.iload 5, 2) := by decide +kernel
theorem dX12_copy_141 : decode cX12_copy 141 = .ok (.if_icmp .ge 30, 3) := by decide +kernel
theorem dX12_copy_144 : decode cX12_copy 144 = .ok (.aload_n 0, 1) := by decide +kernel
theorem dX12_copy_145 : decode cX12_copy 145 = .ok (.getfield 59, 3) := by decide +kernel
theorem dX12_copy_148 : decode cX12_copy 148 = .ok (.iload 6, 2) := by decide +kernel
theorem dX12_copy_150 : decode cX12_copy 150 = .ok (.aload_n 0, 1) := by decide +kernel
theorem dX12_copy_151 : decode cX12_copy 151 = .ok (.getfield 55, 3) := by decide +kernel
theorem dX12_copy_154 : decode cX12_copy 154 = .ok (.bipush 100, 2) := by decide +kernel
theorem dX12_copy_156 : decode cX12_copy 156 = .ok (.iload_n 1, 1) := by decide +kernel
theorem dX12_copy_157 : decode cX12_copy 157 = .ok (.imul, 1) := by decide +kernel
theorem dX12_copy_158 : decode cX12_copy 158 = .ok (.iload_n 2, 1) := by decide +kernel
theorem dX12_copy_159 : decode cX12_copy 159 = .ok (.iadd, 1) := by decide +kernel
theorem dX12_copy_160 : decode cX12_copy 160 = .ok (.iload 6, 2) := by decide +kernel
theorem dX12_copy_162 : decode cX12_copy 162 = .ok (.iadd, 1) := by decide +kernel
theorem dX12_copy_163 : decode cX12_copy 163 = .ok (.laload, 1) := by decide +kernel
theorem dX12_copy_164 : decode cX12_copy 164 = .ok (.lastore, 1) := by decide +kernel
theorem dX12_copy_165 : decode cX12_copy 165 = .ok (.iinc 6 1, 3) := by decide +kernel
theorem dX12_copy_168 : decode cX12_copy 168 = .ok (.goto (-31), 3) := by decide +kernel
theorem dX12_copy_171 : decode cX12_copy 171 = .ok (.iconst 0, 1) := by decide +kernel
theorem dX12_copy_172 : decode cX12_copy 172 = .ok (.istore 6, 2) := by decide +kernel
theorem dX12_copy_174 : decode cX12_copy 174 = .ok (.iload 6, 2) := by decide +kernel
theorem dX12_copy_176 : decode cX12_copy 176 = .ok (.iload 5, 2) := by decide +kernel
theorem dX12_copy_178 : decode cX12_copy 178 = .ok (.if_icmp .ge 31, 3) := by decide +kernel
theorem dX12_copy_181 : decode cX12_copy 181 = .ok (.aload_n 0, 1) := by decide +kernel
theorem dX12_copy_182 : decode cX12_copy 182 = .ok (.getfield 55, 3) := by decide +kernel
theorem dX12_copy_185 : decode cX12_copy 185 = .ok (.bipush 100, 2) := by decide +kernel
theorem dX12_copy_187 : decode cX12_copy 187 = .ok (.iload_n 3, 1) := by decide +kernel
theorem dX12_copy_188 : decode cX12_copy 188 = .ok (.imul, 1) := by decide +kernel
theorem dX12_copy_189 : decode cX12_copy 189 = .ok (.iload 4, 2) := by decide +kernel
theorem dX12_copy_191 : decode cX12_copy 191 = .ok (.iadd, 1) := by decide +kernel
theorem dX12_copy_192 : decode cX12_copy 192 = .ok (.iload 6, 2) := by decide +kernel
theorem dX12_copy_194 : decode cX12_copy 194 = .ok (.iadd, 1) := by decide +kernel
theorem dX12_copy_195 : decode cX12_copy 195 = .ok (.aload_n 0, 1) := by decide +kernel
theorem dX12_copy_196 : decode cX12_copy 196 = .ok (.getfield 59, 3) := by decide +kernel
theorem dX12_copy_199 : decode cX12_copy 199 = .ok (.iload 6, 2) := by decide +kernel
theorem dX12_copy_201 : decode cX12_copy 201 = .ok (.laload, 1) := by decide +kernel
theorem dX12_copy_202 : decode cX12_copy 202 = .ok (.lastore, 1) := by decide +kernel
theorem dX12_copy_203 : decode cX12_copy 203 = .ok (.iinc 6 1, 3) := by decide +kernel
theorem dX12_copy_206 : decode cX12_copy 206 = .ok (.goto (-32), 3) := by decide +kernel
theorem dX12_copy_209 : decode cX12_copy 209 = .ok (.iload 5, 2) := by decide +kernel
theorem dX12_copy_211 : decode cX12_copy 211 = .ok (.ireturn, 1) := by decide +kernel
set_option maxRecDepth 20000 in
theorem ggX12_toll_X12_wrongLayer : GoodIn wsX12_toll wsX12_wrongLayer := goodIn_r _ [8, 9, 10, 11, 12, 7, 13, 17, 18, 19, 20, 21, 22, 23, 24, 25, 26, 27, 28, 29, 30, 31, 32, 33, 34, 35, 36, 37, 38, 39, 40, 41, 42, 43, 44, 45] (by decide +kernel) (by decide +kernel)
set_option maxRecDepth 20000 in
theorem gX12_toll_X12_wrongLayer : GoodIn wsX12_toll (wsV RX12 176 RX12 yX12_wrongLayer wsX12_wrongLayer) := goodIn_app (goodIn_of _ (by decide +kernel)) ggX12_toll_X12_wrongLayer
set_option maxRecDepth 20000 in
theorem ggX12_toll_X12_tollOf : GoodIn wsX12_toll wsX12_tollOf := goodIn_r _ [16] (by decide +kernel) (by decide +kernel)
set_option maxRecDepth 20000 in
theorem gX12_toll_X12_tollOf : GoodIn wsX12_toll (va_wsS RX12 257 yX12_tollOf wsX12_tollOf) := goodIn_app (goodIn_of _ (by decide +kernel)) ggX12_toll_X12_tollOf
theorem dX12_toll_0 : decode cX12_toll 0 = .ok (.aload_n 0, 1) := by decide +kernel
theorem dX12_toll_1 : decode cX12_toll 1 = .ok (.iconst 0, 1) := by decide +kernel
theorem dX12_toll_2 : decode cX12_toll 2 = .ok (.putfield 62, 3) := by decide +kernel
theorem dX12_toll_5 : decode cX12_toll 5 = .ok (.aload_n 0, 1) := by decide +kernel
theorem dX12_toll_6 : decode cX12_toll 6 = .ok (.iload_n 1, 1) := by decide +kernel
theorem dX12_toll_7 : decode cX12_toll 7 = .ok (.invokevirtual 176, 3) := by decide +kernel
theorem dX12_toll_10 : decode cX12_toll 10 = .ok (.ifCond .ge 11, 3) := by decide +kernel
theorem dX12_toll_13 : decode cX12_toll 13 = .ok (.aload_n 0, 1) := by decide +kernel
theorem dX12_toll_14 : decode cX12_toll 14 = .ok (.iload_n 1, 1) := by decide +kernel
theorem dX12_toll_15 : decode cX12_toll 15 = .ok (.invokevirtual 176, 3) := by decide +kernel
theorem dX12_toll_18 : decode cX12_toll 18 = .ok (.goto 18, 3) := by decide +kernel
theorem dX12_toll_21 : decode cX12_toll 21 = .ok (.aload_n 0, 1) := by decide +kernel
theorem dX12_toll_22 : decode cX12_toll 22 = .ok (.getfield 43, 3) := by decide +kernel
theorem dX12_toll_25 : decode cX12_toll 25 = .ok (.iload_n 1, 1) := by decide +kernel
theorem dX12_toll_26 : decode cX12_toll 26 = .ok (.iaload, 1) := by decide +kernel
theorem dX12_toll_27 : decode cX12_toll 27 = .ok (.aload_n 0, 1) := by decide +kernel
theorem dX12_toll_28 : decode cX12_toll 28 = .ok (.getfield 46, 3) := by decide +kernel
theorem dX12_toll_31 : decode cX12_toll 31 = .ok (.iload_n 1, 1) := by decide +kernel
theorem dX12_toll_32 : decode cX12_toll 32 = .ok (.iaload, 1) := by decide +kernel
theorem dX12_toll_33 : decode cX12_toll 33 = .ok (.invokestatic 257, 3) := by decide +kernel
theorem dX12_toll_36 : decode cX12_toll 36 = .ok (.ireturn, 1) := by decide +kernel
set_option maxRecDepth 20000 in
theorem ggX12_toss_X12_wrongLayer : GoodIn wsX12_toss wsX12_wrongLayer := goodIn_r _ [8, 9, 10, 11, 12, 7, 13, 14, 15, 16, 17, 18, 19, 20, 21, 22, 23, 24, 25, 26, 27, 28, 29, 30, 31, 32, 33, 34, 35, 36, 37, 38, 39, 40, 41, 42] (by decide +kernel) (by decide +kernel)
set_option maxRecDepth 20000 in
theorem gX12_toss_X12_wrongLayer : GoodIn wsX12_toss (wsV RX12 176 RX12 yX12_wrongLayer wsX12_wrongLayer) := goodIn_app (goodIn_of _ (by decide +kernel)) ggX12_toss_X12_wrongLayer
theorem dX12_toss_0 : decode cX12_toss 0 = .ok (.aload_n 0, 1) := by decide +kernel
theorem dX12_toss_1 : decode cX12_toss 1 = .ok (.iconst 0, 1) := by decide +kernel
theorem dX12_toss_2 : decode cX12_toss 2 = .ok (.putfield 62, 3) := by decide +kernel
theorem dX12_toss_5 : decode cX12_toss 5 = .ok (.aload_n 0, 1) := by decide +kernel
theorem dX12_toss_6 : decode cX12_toss 6 = .ok (.iload_n 1, 1) := by decide +kernel
theorem dX12_toss_7 : decode cX12_toss 7 = .ok (.invokevirtual 176, 3) := by decide +kernel
theorem dX12_toss_10 : decode cX12_toss 10 = .ok (.ifCond .ge 9, 3) := by decide +kernel
theorem dX12_toss_13 : decode cX12_toss 13 = .ok (.aload_n 0, 1) := by decide +kernel
theorem dX12_toss_14 : decode cX12_toss 14 = .ok (.iload_n 1, 1) := by decide +kernel
theorem dX12_toss_15 : decode cX12_toss 15 = .ok (.invokevirtual 176, 3) := by decide +kernel
theorem dX12_toss_18 : decode cX12_toss 18 = .ok (.ireturn, 1) := by decide +kernel
theorem dX12_toss_19 : decode cX12_toss 19 = .ok (.aload_n 0, 1) := by decide +kernel
theorem dX12_toss_20 : decode cX12_toss 20 = .ok (.getfield 43, 3) := by decide +kernel
theorem dX12_toss_23 : decode cX12_toss 23 = .ok (.iload_n 1, 1) := by decide +kernel
theorem dX12_toss_24 : decode cX12_toss 24 = .ok (.iaload, 1) := by decide +kernel
theorem dX12_toss_25 : decode cX12_toss 25 = .ok (.istore_n 2, 1) := by decide +kernel
theorem dX12_toss_26 : decode cX12_toss 26 = .ok (.aload_n 0, 1) := by decide +kernel
theorem dX12_toss_27 : decode cX12_toss 27 = .ok (.getfield 46, 3) := by decide +kernel
theorem dX12_toss_30 : decode cX12_toss 30 = .ok (.iload_n 1, 1) := by decide +kernel
theorem dX12_toss_31 : decode cX12_toss 31 = .ok (.iaload, 1) := by decide +kernel
theorem dX12_toss_32 : decode cX12_toss 32 = .ok (.istore_n 3, 1) := by decide +kernel
theorem dX12_toss_33 : decode cX12_toss 33 = .ok (.iload_n 2, 1) := by decide +kernel
theorem dX12_toss_34 : decode cX12_toss 34 = .ok (.iconst 2, 1) := by decide +kernel
theorem dX12_toss_35 : decode cX12_toss 35 = .ok (.if_icmp .eq 7, 3) := by decide +kernel
theorem dX12_toss_38 : decode cX12_toss 38 = .ok (.iload_n 3, 1) := by decide +kernel
theorem dX12_toss_39 : decode cX12_toss 39 = .ok (.ifCond .ne 6, 3) := by decide +kernel
theorem dX12_toss_42 : decode cX12_toss 42 = .ok (.bipush (-15), 2) := by decide +kernel
theorem dX12_toss_44 : decode cX12_toss 44 = .ok (.ireturn, 1) := by decide +kernel
theorem dX12_toss_45 : decode cX12_toss 45 = .ok (.iload_n 2, 1) := by decide +kernel
theorem dX12_toss_46 : decode cX12_toss 46 = .ok (.iconst 4, 1) := by decide +kernel
theorem dX12_toss_47 : decode cX12_toss 47 = .ok (.if_icmp .ne 10, 3) := by decide +kernel
theorem dX12_toss_50 : decode cX12_toss 50 = .ok (.bipush 100, 2) := by decide +kernel
theorem dX12_toss_52 : decode cX12_toss 52 = .ok (.iload_n 3, 1) := by decide +kernel
theorem dX12_toss_53 : decode cX12_toss 53 = .ok (.iadd, 1) := by decide +kernel
theorem dX12_toss_54 : decode cX12_toss 54 = .ok (.goto 15, 3) := by decide +kernel
theorem dX12_toss_57 : decode cX12_toss 57 = .ok (.iload_n 2, 1) := by decide +kernel
theorem dX12_toss_58 : decode cX12_toss 58 = .ok (.iconst 5, 1) := by decide +kernel
theorem dX12_toss_59 : decode cX12_toss 59 = .ok (.if_icmp .ne 9, 3) := by decide +kernel
theorem dX12_toss_62 : decode cX12_toss 62 = .ok (.sipush 206, 3) := by decide +kernel
theorem dX12_toss_65 : decode cX12_toss 65 = .ok (.goto 4, 3) := by decide +kernel
theorem dX12_toss_68 : decode cX12_toss 68 = .ok (.iload_n 3, 1) := by decide +kernel
theorem dX12_toss_69 : decode cX12_toss 69 = .ok (.ireturn, 1) := by decide +kernel
theorem dJ6_bitCount_0f7a4_0 : decode cJ6_bitCount_0f7a4 0 = .ok (.iload_n 0, 1) := by decide +kernel
theorem dJ6_bitCount_0f7a4_1 : decode cJ6_bitCount_0f7a4 1 = .ok (.iload_n 0, 1) := by decide +kernel
theorem dJ6_bitCount_0f7a4_2 : decode cJ6_bitCount_0f7a4 2 = .ok (.iconst 1, 1) := by decide +kernel
theorem dJ6_bitCount_0f7a4_3 : decode cJ6_bitCount_0f7a4 3 = .ok (.iushr, 1) := by decide +kernel
theorem dJ6_bitCount_0f7a4_4 : decode cJ6_bitCount_0f7a4 4 = .ok (.ldc_w 265, 3) := by decide +kernel
theorem dJ6_bitCount_0f7a4_7 : decode cJ6_bitCount_0f7a4 7 = .ok (.iand, 1) := by decide +kernel
theorem dJ6_bitCount_0f7a4_8 : decode cJ6_bitCount_0f7a4 8 = .ok (.isub, 1) := by decide +kernel
theorem dJ6_bitCount_0f7a4_9 : decode cJ6_bitCount_0f7a4 9 = .ok (.istore_n 0, 1) := by decide +kernel
theorem dJ6_bitCount_0f7a4_10 : decode cJ6_bitCount_0f7a4 10 = .ok (.iload_n 0, 1) := by decide +kernel
theorem dJ6_bitCount_0f7a4_11 : decode cJ6_bitCount_0f7a4 11 = .ok (.ldc_w 266, 3) := by decide +kernel
theorem dJ6_bitCount_0f7a4_14 : decode cJ6_bitCount_0f7a4 14 = .ok (.iand, 1) := by decide +kernel
theorem dJ6_bitCount_0f7a4_15 : decode cJ6_bitCount_0f7a4 15 = .ok (.iload_n 0, 1) := by decide +kernel
theorem dJ6_bitCount_0f7a4_16 : decode cJ6_bitCount_0f7a4 16 = .ok (.iconst 2, 1) := by decide +kernel
theorem dJ6_bitCount_0f7a4_17 : decode cJ6_bitCount_0f7a4 17 = .ok (.iushr, 1) := by decide +kernel
theorem dJ6_bitCount_0f7a4_18 : decode cJ6_bitCount_0f7a4 18 = .ok (.ldc_w 266, 3) := by decide +kernel
theorem dJ6_bitCount_0f7a4_21 : decode cJ6_bitCount_0f7a4 21 = .ok (.iand, 1) := by decide +kernel
theorem dJ6_bitCount_0f7a4_22 : decode cJ6_bitCount_0f7a4 22 = .ok (.iadd, 1) := by decide +kernel
theorem dJ6_bitCount_0f7a4_23 : decode cJ6_bitCount_0f7a4 23 = .ok (.istore_n 0, 1) := by decide +kernel
theorem dJ6_bitCount_0f7a4_24 : decode cJ6_bitCount_0f7a4 24 = .ok (.iload_n 0, 1) := by decide +kernel
theorem dJ6_bitCount_0f7a4_25 : decode cJ6_bitCount_0f7a4 25 = .ok (.iload_n 0, 1) := by decide +kernel
theorem dJ6_bitCount_0f7a4_26 : decode cJ6_bitCount_0f7a4 26 = .ok (.iconst 4, 1) := by decide +kernel
theorem dJ6_bitCount_0f7a4_27 : decode cJ6_bitCount_0f7a4 27 = .ok (.iushr, 1) := by decide +kernel
theorem dJ6_bitCount_0f7a4_28 : decode cJ6_bitCount_0f7a4 28 = .ok (.iadd, 1) := by decide +kernel
theorem dJ6_bitCount_0f7a4_29 : decode cJ6_bitCount_0f7a4 29 = .ok (.ldc_w 267, 3) := by decide +kernel
theorem dJ6_bitCount_0f7a4_32 : decode cJ6_bitCount_0f7a4 32 = .ok (.iand, 1) := by decide +kernel
theorem dJ6_bitCount_0f7a4_33 : decode cJ6_bitCount_0f7a4 33 = .ok (.istore_n 0, 1) := by decide +kernel
theorem dJ6_bitCount_0f7a4_34 : decode cJ6_bitCount_0f7a4 34 = .ok (.iload_n 0, 1) := by decide +kernel
theorem dJ6_bitCount_0f7a4_35 : decode cJ6_bitCount_0f7a4 35 = .ok (.iload_n 0, 1) := by decide +kernel
theorem dJ6_bitCount_0f7a4_36 : decode cJ6_bitCount_0f7a4 36 = .ok (.bipush 8, 2) := by decide +kernel
theorem dJ6_bitCount_0f7a4_38 : decode cJ6_bitCount_0f7a4 38 = .ok (.iushr, 1) := by decide +kernel
theorem dJ6_bitCount_0f7a4_39 : decode cJ6_bitCount_0f7a4 39 = .ok (.iadd, 1) := by decide +kernel
theorem dJ6_bitCount_0f7a4_40 : decode cJ6_bitCount_0f7a4 40 = .ok (.istore_n 0, 1) := by decide +kernel
theorem dJ6_bitCount_0f7a4_41 : decode cJ6_bitCount_0f7a4 41 = .ok (.iload_n 0, 1) := by decide +kernel
theorem dJ6_bitCount_0f7a4_42 : decode cJ6_bitCount_0f7a4 42 = .ok (.iload_n 0, 1) := by decide +kernel
theorem dJ6_bitCount_0f7a4_43 : decode cJ6_bitCount_0f7a4 43 = .ok (.bipush 16, 2) := by decide +kernel
theorem dJ6_bitCount_0f7a4_45 : decode cJ6_bitCount_0f7a4 45 = .ok (.iushr, 1) := by decide +kernel
theorem dJ6_bitCount_0f7a4_46 : decode cJ6_bitCount_0f7a4 46 = .ok (.iadd, 1) := by decide +kernel
theorem dJ6_bitCount_0f7a4_47 : decode cJ6_bitCount_0f7a4 47 = .ok (.istore_n 0, 1) := by decide +kernel
theorem dJ6_bitCount_0f7a4_48 : decode cJ6_bitCount_0f7a4 48 = .ok (.iload_n 0, 1) := by decide +kernel
theorem dJ6_bitCount_0f7a4_49 : decode cJ6_bitCount_0f7a4 49 = .ok (.bipush 63, 2) := by decide +kernel
theorem dJ6_bitCount_0f7a4_51 : decode cJ6_bitCount_0f7a4 51 = .ok (.iand, 1) := by decide +kernel
theorem dJ6_bitCount_0f7a4_52 : decode cJ6_bitCount_0f7a4 52 = .ok (.ireturn, 1) := by decide +kernel
theorem dJ9_max_7cf53_0 : decode cJ9_max_7cf53 0 = .ok (.iload_n 0, 1) := by decide +kernel
theorem dJ9_max_7cf53_1 : decode cJ9_max_7cf53 1 = .ok (.iload_n 1, 1) := by decide +kernel
theorem dJ9_max_7cf53_2 : decode cJ9_max_7cf53 2 = .ok (.if_icmp .lt 7, 3) := by decide +kernel
theorem dJ9_max_7cf53_5 : decode cJ9_max_7cf53 5 = .ok (.iload_n 0, 1) := by decide +kernel
theorem dJ9_max_7cf53_6 : decode cJ9_max_7cf53 6 = .ok (.goto 4, 3) := by decide +kernel
theorem dJ9_max_7cf53_9 : decode cJ9_max_7cf53 9 = .ok (.iload_n 1, 1) := by decide +kernel
theorem dJ9_max_7cf53_10 : decode cJ9_max_7cf53 10 = .ok (.ireturn, 1) := by decide +kernel
theorem dJ9_min_7cf53_0 : decode cJ9_min_7cf53 0 = .ok (.iload_n 0, 1) := by decide +kernel
theorem dJ9_min_7cf53_1 : decode cJ9_min_7cf53 1 = .ok (.iload_n 1, 1) := by decide +kernel
theorem dJ9_min_7cf53_2 : decode cJ9_min_7cf53 2 = .ok (.if_icmp .gt 7, 3) := by decide +kernel
theorem dJ9_min_7cf53_5 : decode cJ9_min_7cf53 5 = .ok (.iload_n 0, 1) := by decide +kernel
theorem dJ9_min_7cf53_6 : decode cJ9_min_7cf53 6 = .ok (.goto 4, 3) := by decide +kernel
theorem dJ9_min_7cf53_9 : decode cJ9_min_7cf53 9 = .ok (.iload_n 1, 1) := by decide +kernel
theorem dJ9_min_7cf53_10 : decode cJ9_min_7cf53 10 = .ok (.ireturn, 1) := by decide +kernel
theorem dJ7_fill_53178_0 : decode cJ7_fill_53178 0 = .ok (.iconst 0, 1) := by decide +kernel
theorem dJ7_fill_53178_1 : decode cJ7_fill_53178 1 = .ok (.istore_n 2, 1) := by decide +kernel
theorem dJ7_fill_53178_2 : decode cJ7_fill_53178 2 = .ok (.aload_n 0, 1) := by decide +kernel
theorem dJ7_fill_53178_3 : decode cJ7_fill_53178 3 = .ok (.arraylength, 1) := by decide +kernel
theorem dJ7_fill_53178_4 : decode cJ7_fill_53178 4 = .ok (.istore_n 3, 1) := by decide +kernel
theorem dJ7_fill_53178_5 : decode cJ7_fill_53178 5 = .ok (.iload_n 2, 1) := by decide +kernel
theorem dJ7_fill_53178_6 : decode cJ7_fill_53178 6 = .ok (.iload_n 3, 1) := by decide +kernel
theorem dJ7_fill_53178_7 : decode cJ7_fill_53178 7 = .ok (.if_icmp .ge 13, 3) := by decide +kernel
theorem dJ7_fill_53178_10 : decode cJ7_fill_53178 10 = .ok (.aload_n 0, 1) := by decide +kernel
theorem dJ7_fill_53178_11 : decode cJ7_fill_53178 11 = .ok (.iload_n 2, 1) := by decide +kernel
theorem dJ7_fill_53178_12 : decode cJ7_fill_53178 12 = .ok (.iload_n 1, 1) := by decide +kernel
theorem dJ7_fill_53178_13 : decode cJ7_fill_53178 13 = .ok (.iastore, 1) := by decide +kernel
theorem dJ7_fill_53178_14 : decode cJ7_fill_53178 14 = .ok (.iinc 2 1, 3) := by decide +kernel
theorem dJ7_fill_53178_17 : decode cJ7_fill_53178 17 = .ok (.goto (-12), 3) := by decide +kernel
theorem dJ7_fill_53178_20 : decode cJ7_fill_53178 20 = .ok (.return_, 1) := by decide +kernel
