set_option maxRecDepth 20000 in
theorem ggX0_init_X3_init : GoodIn wsX0_init wsX3_init := goodIn_r _ [3, 4, 5, 6, 7, 8, 9] (by decide +kernel) (by decide +kernel)
set_option maxRecDepth 20000 in
theorem gX0_init_X3_init_n1 : GoodIn wsX0_init (wsX3_init) := ggX0_init_X3_init
theorem dX0_init_0 : decode cX0_init 0 = .ok (.aload_n 0, 1) := by decide +kernel
theorem dX0_init_1 : decode cX0_init 1 = .ok (.invokespecial 1, 3) := by decide +kernel
theorem dX0_init_4 : decode cX0_init 4 = .ok (.return_, 1) := by decide +kernel
set_option maxRecDepth 20000 in
theorem ggX0_fingersIn_X3_fingersIn : GoodIn wsX0_fingersIn wsX3_fingersIn := goodIn_r _ [6, 7, 8, 9, 10, 11, 12] (by decide +kernel) (by decide +kernel)
set_option maxRecDepth 20000 in
theorem gX0_fingersIn_X3_fingersIn_s7 : GoodIn wsX0_fingersIn (va_wsSU RX0 7 yX3_fingersIn wsX3_fingersIn) := goodIn_app (goodIn_of _ (by decide +kernel)) ggX0_fingersIn_X3_fingersIn
theorem dX0_fingersIn_0 : decode cX0_fingersIn 0 = .ok (.aload_n 0, 1) := by decide +kernel
theorem dX0_fingersIn_1 : decode cX0_fingersIn 1 = .ok (.iload_n 1, 1) := by decide +kernel
theorem dX0_fingersIn_2 : decode cX0_fingersIn 2 = .ok (.iload_n 2, 1) := by decide +kernel
theorem dX0_fingersIn_3 : decode cX0_fingersIn 3 = .ok (.invokespecial 7, 3) := by decide +kernel
theorem dX0_fingersIn_6 : decode cX0_fingersIn 6 = .ok (.iload_n 2, 1) := by decide +kernel
theorem dX0_fingersIn_7 : decode cX0_fingersIn 7 = .ok (.iadd, 1) := by decide +kernel
theorem dX0_fingersIn_8 : decode cX0_fingersIn 8 = .ok (.ireturn, 1) := by decide +kernel
set_option maxRecDepth 20000 in
theorem ggX0_light_X3_light : GoodIn wsX0_light wsX3_light := goodIn_r _ [6, 7, 8, 9, 10, 11, 12] (by decide +kernel) (by decide +kernel)
set_option maxRecDepth 20000 in
theorem gX0_light_X3_light_s11 : GoodIn wsX0_light (va_wsSU RX0 11 yX3_light wsX3_light) := goodIn_app (goodIn_of _ (by decide +kernel)) ggX0_light_X3_light
theorem dX0_light_0 : decode cX0_light 0 = .ok (.iconst 2, 1) := by decide +kernel
theorem dX0_light_1 : decode cX0_light 1 = .ok (.aload_n 0, 1) := by decide +kernel
theorem dX0_light_2 : decode cX0_light 2 = .ok (.iload_n 1, 1) := by decide +kernel
theorem dX0_light_3 : decode cX0_light 3 = .ok (.invokespecial 11, 3) := by decide +kernel
theorem dX0_light_6 : decode cX0_light 6 = .ok (.imul, 1) := by decide +kernel
theorem dX0_light_7 : decode cX0_light 7 = .ok (.ireturn, 1) := by decide +kernel
set_option maxRecDepth 20000 in
theorem ggX0_tollWith_X3_tollWith : GoodIn wsX0_tollWith wsX3_tollWith := goodIn_r _ [6, 7, 8, 9, 10, 11, 12] (by decide +kernel) (by decide +kernel)
set_option maxRecDepth 20000 in
theorem gX0_tollWith_X3_tollWith_s15 : GoodIn wsX0_tollWith (va_wsSU RX0 15 yX3_tollWith wsX3_tollWith) := goodIn_app (goodIn_of _ (by decide +kernel)) ggX0_tollWith_X3_tollWith
theorem dX0_tollWith_0 : decode cX0_tollWith 0 = .ok (.aload_n 0, 1) := by decide +kernel
theorem dX0_tollWith_1 : decode cX0_tollWith 1 = .ok (.iload_n 1, 1) := by decide +kernel
theorem dX0_tollWith_2 : decode cX0_tollWith 2 = .ok (.invokespecial 15, 3) := by decide +kernel
theorem dX0_tollWith_5 : decode cX0_tollWith 5 = .ok (.bipush 7, 2) := by decide +kernel
theorem dX0_tollWith_7 : decode cX0_tollWith 7 = .ok (.iadd, 1) := by decide +kernel
theorem dX0_tollWith_8 : decode cX0_tollWith 8 = .ok (.ireturn, 1) := by decide +kernel
set_option maxRecDepth 20000 in
theorem ggX1_init_X3_init : GoodIn wsX1_init wsX3_init := goodIn_r _ [3, 4, 5, 6, 7, 8, 9] (by decide +kernel) (by decide +kernel)
set_option maxRecDepth 20000 in
theorem gX1_init_X3_init_n1 : GoodIn wsX1_init (wsX3_init) := ggX1_init_X3_init
theorem dX1_init_0 : decode cX1_init 0 = .ok (.aload_n 0, 1) := by decide +kernel
theorem dX1_init_1 : decode cX1_init 1 = .ok (.invokespecial 1, 3) := by decide +kernel
theorem dX1_init_4 : decode cX1_init 4 = .ok (.return_, 1) := by decide +kernel
set_option maxRecDepth 20000 in
theorem ggX1_melts_X3_melts : GoodIn wsX1_melts wsX3_melts := goodIn_r _ [6, 7, 8, 9, 10, 11, 12] (by decide +kernel) (by decide +kernel)
set_option maxRecDepth 20000 in
theorem gX1_melts_X3_melts_s7 : GoodIn wsX1_melts (va_wsSU RX1 7 yX3_melts wsX3_melts) := goodIn_app (goodIn_of _ (by decide +kernel)) ggX1_melts_X3_melts
theorem dX1_melts_0 : decode cX1_melts 0 = .ok (.aload_n 0, 1) := by decide +kernel
theorem dX1_melts_1 : decode cX1_melts 1 = .ok (.iload_n 1, 1) := by decide +kernel
theorem dX1_melts_2 : decode cX1_melts 2 = .ok (.invokespecial 7, 3) := by decide +kernel
theorem dX1_melts_5 : decode cX1_melts 5 = .ok (.iconst 1, 1) := by decide +kernel
theorem dX1_melts_6 : decode cX1_melts 6 = .ok (.iadd, 1) := by decide +kernel
theorem dX1_melts_7 : decode cX1_melts 7 = .ok (.ireturn, 1) := by decide +kernel
set_option maxRecDepth 20000 in
theorem ggX1_light_X3_light : GoodIn wsX1_light wsX3_light := goodIn_r _ [6, 7, 8, 9, 10, 11, 12] (by decide +kernel) (by decide +kernel)
set_option maxRecDepth 20000 in
theorem gX1_light_X3_light_s11 : GoodIn wsX1_light (va_wsSU RX1 11 yX3_light wsX3_light) := goodIn_app (goodIn_of _ (by decide +kernel)) ggX1_light_X3_light
theorem dX1_light_0 : decode cX1_light 0 = .ok (.aload_n 0, 1) := by decide +kernel
theorem dX1_light_1 : decode cX1_light 1 = .ok (.iload_n 1, 1) := by decide +kernel
theorem dX1_light_2 : decode cX1_light 2 = .ok (.invokespecial 11, 3) := by decide +kernel
theorem dX1_light_5 : decode cX1_light 5 = .ok (.iload_n 1, 1) := by decide +kernel
theorem dX1_light_6 : decode cX1_light 6 = .ok (.isub, 1) := by decide +kernel
theorem dX1_light_7 : decode cX1_light 7 = .ok (.ireturn, 1) := by decide +kernel
set_option maxRecDepth 20000 in
theorem ggX1_tollWith_X3_tollWith : GoodIn wsX1_tollWith wsX3_tollWith := goodIn_r _ [6, 7, 8, 9, 10, 11, 12] (by decide +kernel) (by decide +kernel)
set_option maxRecDepth 20000 in
theorem gX1_tollWith_X3_tollWith_s14 : GoodIn wsX1_tollWith (va_wsSU RX1 14 yX3_tollWith wsX3_tollWith) := goodIn_app (goodIn_of _ (by decide +kernel)) ggX1_tollWith_X3_tollWith
theorem dX1_tollWith_0 : decode cX1_tollWith 0 = .ok (.iconst 2, 1) := by decide +kernel
theorem dX1_tollWith_1 : decode cX1_tollWith 1 = .ok (.aload_n 0, 1) := by decide +kernel
theorem dX1_tollWith_2 : decode cX1_tollWith 2 = .ok (.iload_n 1, 1) := by decide +kernel
theorem dX1_tollWith_3 : decode cX1_tollWith 3 = .ok (.invokespecial 14, 3) := by decide +kernel
theorem dX1_tollWith_6 : decode cX1_tollWith 6 = .ok (.imul, 1) := by decide +kernel
theorem dX1_tollWith_7 : decode cX1_tollWith 7 = .ok (.ireturn, 1) := by decide +kernel
theorem dX1_fail_0 : decode cX1_fail 0 = .ok (.new 17, 3) := by decide +kernel
theorem dX1_fail_3 : decode cX1_fail 3 = .ok (.dup, 1) := by decide +kernel
theorem dX1_fail_4 : decode cX1_fail 4 = .ok (.ldc 19, 2) := by decide +kernel
theorem dX1_fail_6 : decode cX1_fail 6 = .ok (.invokespecial 21, 3) := by decide +kernel
theorem dX1_fail_9 : decode cX1_fail 9 = .ok (.athrow, 1) := by decide +kernel
theorem dX2_init_0 : decode cX2_init 0 = .ok (.aload_n 0, 1) := by decide +kernel
theorem dX2_init_1 : decode cX2_init 1 = .ok (.invokespecial 3, 3) := by decide +kernel
theorem dX2_init_4 : decode cX2_init 4 = .ok (.aload_n 0, 1) := by decide +kernel
theorem dX2_init_5 : decode cX2_init 5 = .ok (.bipush 8, 2) := by decide +kernel
theorem dX2_init_7 : decode cX2_init 7 = .ok (.newarray .int, 2) := by decide +kernel
theorem dX2_init_9 : decode cX2_init 9 = .ok (.putfield 9, 3) := by decide +kernel
theorem dX2_init_12 : decode cX2_init 12 = .ok (.aload_n 0, 1) := by decide +kernel
theorem dX2_init_13 : decode cX2_init 13 = .ok (.bipush 8, 2) := by decide +kernel
theorem dX2_init_15 : decode cX2_init 15 = .ok (.newarray .int, 2) := by decide +kernel
theorem dX2_init_17 : decode cX2_init 17 = .ok (.putfield 15, 3) := by decide +kernel
theorem dX2_init_20 : decode cX2_init 20 = .ok (.aload_n 0, 1) := by decide +kernel
theorem dX2_init_21 : decode cX2_init 21 = .ok (.bipush 8, 2) := by decide +kernel
theorem dX2_init_23 : decode cX2_init 23 = .ok (.newarray .int, 2) := by decide +kernel
theorem dX2_init_25 : decode cX2_init 25 = .ok (.putfield 18, 3) := by decide +kernel
theorem dX2_init_28 : decode cX2_init 28 = .ok (.aload_n 0, 1) := by decide +kernel
theorem dX2_init_29 : decode cX2_init 29 = .ok (.bipush 8, 2) := by decide +kernel
theorem dX2_init_31 : decode cX2_init 31 = .ok (.newarray .int, 2) := by decide +kernel
theorem dX2_init_33 : decode cX2_init 33 = .ok (.putfield 21, 3) := by decide +kernel
theorem dX2_init_36 : decode cX2_init 36 = .ok (.aload_n 0, 1) := by decide +kernel
theorem dX2_init_37 : decode cX2_init 37 = .ok (.bipush 8, 2) := by decide +kernel
theorem dX2_init_39 : decode cX2_init 39 = .ok (.newarray .int, 2) := by decide +kernel
theorem dX2_init_41 : decode cX2_init 41 = .ok (.putfield 24, 3) := by decide +kernel
theorem dX2_init_44 : decode cX2_init 44 = .ok (.aload_n 0, 1) := by decide +kernel
theorem dX2_init_45 : decode cX2_init 45 = .ok (.bipush 8, 2) := by decide +kernel
theorem dX2_init_47 : decode cX2_init 47 = .ok (.newarray .int, 2) := by decide +kernel
theorem dX2_init_49 : decode cX2_init 49 = .ok (.putfield 27, 3) := by decide +kernel
theorem dX2_init_52 : decode cX2_init 52 = .ok (.return_, 1) := by decide +kernel
theorem dX2_has_0 : decode cX2_has 0 = .ok (.iload_n 1, 1) := by decide +kernel
theorem dX2_has_1 : decode cX2_has 1 = .ok (.ifCond .lt 21, 3) := by decide +kernel
theorem dX2_has_4 : decode cX2_has 4 = .ok (.iload_n 1, 1) := by decide +kernel
theorem dX2_has_5 : decode cX2_has 5 = .ok (.aload_n 0, 1) := by decide +kernel
theorem dX2_has_6 : decode cX2_has 6 = .ok (.getfield 30, 3) := by decide +kernel
theorem dX2_has_9 : decode cX2_has 9 = .ok (.if_icmp .ge 13, 3) := by decide +kernel
theorem dX2_has_12 : decode cX2_has 12 = .ok (.iload_n 1, 1) := by decide +kernel
theorem dX2_has_13 : decode cX2_has 13 = .ok (.bipush 8, 2) := by decide +kernel
theorem dX2_has_15 : decode cX2_has 15 = .ok (.if_icmp .ge 7, 3) := by decide +kernel
theorem dX2_has_18 : decode cX2_has 18 = .ok (.iconst 1, 1) := by decide +kernel
theorem dX2_has_19 : decode cX2_has 19 = .ok (.goto 4, 3) := by decide +kernel
theorem dX2_has_22 : decode cX2_has 22 = .ok (.iconst 0, 1) := by decide +kernel
theorem dX2_has_23 : decode cX2_has 23 = .ok (.ireturn, 1) := by decide +kernel
set_option maxRecDepth 20000 in
theorem ggX2_oathAt_X2_has : GoodIn wsX2_oathAt wsX2_has := goodIn_r _ [6, 7, 8, 9, 10, 11, 12, 13, 14] (by decide +kernel) (by decide +kernel)
set_option maxRecDepth 20000 in
theorem gX2_oathAt_X2_has : GoodIn wsX2_oathAt (wsV RX2 34 RX2 yX2_has wsX2_has) := goodIn_app (goodIn_of _ (by decide +kernel)) ggX2_oathAt_X2_has
theorem dX2_oathAt_0 : decode cX2_oathAt 0 = .ok (.aload_n 0, 1) := by decide +kernel
theorem dX2_oathAt_1 : decode cX2_oathAt 1 = .ok (.iload_n 1, 1) := by decide +kernel
theorem dX2_oathAt_2 : decode cX2_oathAt 2 = .ok (.invokevirtual 34, 3) := by decide +kernel
theorem dX2_oathAt_5 : decode cX2_oathAt 5 = .ok (.ifCond .eq 12, 3) := by decide +kernel
theorem dX2_oathAt_8 : decode cX2_oathAt 8 = .ok (.aload_n 0, 1) := by decide +kernel
theorem dX2_oathAt_9 : decode cX2_oathAt 9 = .ok (.getfield 15, 3) := by decide +kernel
theorem dX2_oathAt_12 : decode cX2_oathAt 12 = .ok (.iload_n 1, 1) := by decide +kernel
theorem dX2_oathAt_13 : decode cX2_oathAt 13 = .ok (.iaload, 1) := by decide +kernel
theorem dX2_oathAt_14 : decode cX2_oathAt 14 = .ok (.goto 4, 3) := by decide +kernel
theorem dX2_oathAt_17 : decode cX2_oathAt 17 = .ok (.iconst 0, 1) := by decide +kernel
theorem dX2_oathAt_18 : decode cX2_oathAt 18 = .ok (.ireturn, 1) := by decide +kernel
set_option maxRecDepth 20000 in
theorem ggX2_winterAt_X2_has : GoodIn wsX2_winterAt wsX2_has := goodIn_r _ [6, 7, 8, 9, 10, 11, 12, 13, 14] (by decide +kernel) (by decide +kernel)
set_option maxRecDepth 20000 in
theorem gX2_winterAt_X2_has : GoodIn wsX2_winterAt (wsV RX2 34 RX2 yX2_has wsX2_has) := goodIn_app (goodIn_of _ (by decide +kernel)) ggX2_winterAt_X2_has
theorem dX2_winterAt_0 : decode cX2_winterAt 0 = .ok (.aload_n 0, 1) := by decide +kernel
theorem dX2_winterAt_1 : decode cX2_winterAt 1 = .ok (.iload_n 1, 1) := by decide +kernel
theorem dX2_winterAt_2 : decode cX2_winterAt 2 = .ok (.invokevirtual 34, 3) := by decide +kernel
theorem dX2_winterAt_5 : decode cX2_winterAt 5 = .ok (.ifCond .eq 12, 3) := by decide +kernel
theorem dX2_winterAt_8 : decode cX2_winterAt 8 = .ok (.aload_n 0, 1) := by decide +kernel
theorem dX2_winterAt_9 : decode cX2_winterAt 9 = .ok (.getfield 18, 3) := by decide +kernel
theorem dX2_winterAt_12 : decode cX2_winterAt 12 = .ok (.iload_n 1, 1) := by decide +kernel
theorem dX2_winterAt_13 : decode cX2_winterAt 13 = .ok (.iaload, 1) := by decide +kernel
theorem dX2_winterAt_14 : decode cX2_winterAt 14 = .ok (.goto 4, 3) := by decide +kernel
theorem dX2_winterAt_17 : decode cX2_winterAt 17 = .ok (.iconst 0, 1) := by decide +kernel
theorem dX2_winterAt_18 : decode cX2_winterAt 18 = .ok (.ireturn, 1) := by decide +kernel
set_option maxRecDepth 20000 in
theorem ggX2_thickAt_X2_has : GoodIn wsX2_thickAt wsX2_has := goodIn_r _ [6, 7, 8, 9, 10, 11, 12, 13, 14] (by decide +kernel) (by decide +kernel)
set_option maxRecDepth 20000 in
theorem gX2_thickAt_X2_has : GoodIn wsX2_thickAt (wsV RX2 34 RX2 yX2_has wsX2_has) := goodIn_app (goodIn_of _ (by decide +kernel)) ggX2_thickAt_X2_has
theorem dX2_thickAt_0 : decode cX2_thickAt 0 = .ok (.aload_n 0, 1) := by decide +kernel
theorem dX2_thickAt_1 : decode cX2_thickAt 1 = .ok (.iload_n 1, 1) := by decide +kernel
theorem dX2_thickAt_2 : decode cX2_thickAt 2 = .ok (.invokevirtual 34, 3) := by decide +kernel
theorem dX2_thickAt_5 : decode cX2_thickAt 5 = .ok (.ifCond .eq 12, 3) := by decide +kernel
theorem dX2_thickAt_8 : decode cX2_thickAt 8 = .ok (.aload_n 0, 1) := by decide +kernel
theorem dX2_thickAt_9 : decode cX2_thickAt 9 = .ok (.getfield 21, 3) := by decide +kernel
theorem dX2_thickAt_12 : decode cX2_thickAt 12 = .ok (.iload_n 1, 1) := by decide +kernel
theorem dX2_thickAt_13 : decode cX2_thickAt 13 = .ok (.iaload, 1) := by decide +kernel
theorem dX2_thickAt_14 : decode cX2_thickAt 14 = .ok (.goto 4, 3) := by decide +kernel
theorem dX2_thickAt_17 : decode cX2_thickAt 17 = .ok (.iconst 0, 1) := by decide +kernel
theorem dX2_thickAt_18 : decode cX2_thickAt 18 = .ok (.ireturn, 1) := by decide +kernel
set_option maxRecDepth 20000 in
theorem ggX2_meltsAt_X2_has : GoodIn wsX2_meltsAt wsX2_has := goodIn_r _ [6, 7, 8, 9, 10, 11, 12, 13, 14] (by decide +kernel) (by decide +kernel)
set_option maxRecDepth 20000 in
theorem gX2_meltsAt_X2_has : GoodIn wsX2_meltsAt (wsV RX2 34 RX2 yX2_has wsX2_has) := goodIn_app (goodIn_of _ (by decide +kernel)) ggX2_meltsAt_X2_has
theorem dX2_meltsAt_0 : decode cX2_meltsAt 0 = .ok (.aload_n 0, 1) := by decide +kernel
theorem dX2_meltsAt_1 : decode cX2_meltsAt 1 = .ok (.iload_n 1, 1) := by decide +kernel
theorem dX2_meltsAt_2 : decode cX2_meltsAt 2 = .ok (.invokevirtual 34, 3) := by decide +kernel
theorem dX2_meltsAt_5 : decode cX2_meltsAt 5 = .ok (.ifCond .eq 12, 3) := by decide +kernel
theorem dX2_meltsAt_8 : decode cX2_meltsAt 8 = .ok (.aload_n 0, 1) := by decide +kernel
theorem dX2_meltsAt_9 : decode cX2_meltsAt 9 = .ok (.getfield 24, 3) := by decide +kernel
theorem dX2_meltsAt_12 : decode cX2_meltsAt 12 = .ok (.iload_n 1, 1) := by decide +kernel
theorem dX2_meltsAt_13 : decode cX2_meltsAt 13 = .ok (.iaload, 1) := by decide +kernel
theorem dX2_meltsAt_14 : decode cX2_meltsAt 14 = .ok (.goto 4, 3) := by decide +kernel
theorem dX2_meltsAt_17 : decode cX2_meltsAt 17 = .ok (.iconst 0, 1) := by decide +kernel
theorem dX2_meltsAt_18 : decode cX2_meltsAt 18 = .ok (.ireturn, 1) := by decide +kernel
set_option maxRecDepth 20000 in
theorem ggX2_lightAt_X2_has : GoodIn wsX2_lightAt wsX2_has := goodIn_r _ [6, 7, 8, 9, 10, 11, 12, 13, 14] (by decide +kernel) (by decide +kernel)
set_option maxRecDepth 20000 in
theorem gX2_lightAt_X2_has : GoodIn wsX2_lightAt (wsV RX2 34 RX2 yX2_has wsX2_has) := goodIn_app (goodIn_of _ (by decide +kernel)) ggX2_lightAt_X2_has
theorem dX2_lightAt_0 : decode cX2_lightAt 0 = .ok (.aload_n 0, 1) := by decide +kernel
theorem dX2_lightAt_1 : decode cX2_lightAt 1 = .ok (.iload_n 1, 1) := by decide +kernel
theorem dX2_lightAt_2 : decode cX2_lightAt 2 = .ok (.invokevirtual 34, 3) := by decide +kernel
theorem dX2_lightAt_5 : decode cX2_lightAt 5 = .ok (.ifCond .eq 12, 3) := by decide +kernel
theorem dX2_lightAt_8 : decode cX2_lightAt 8 = .ok (.aload_n 0, 1) := by decide +kernel
theorem dX2_lightAt_9 : decode cX2_lightAt 9 = .ok (.getfield 27, 3) := by decide +kernel
theorem dX2_lightAt_12 : decode cX2_lightAt 12 = .ok (.iload_n 1, 1) := by decide +kernel
theorem dX2_lightAt_13 : decode cX2_lightAt 13 = .ok (.iaload, 1) := by decide +kernel
theorem dX2_lightAt_14 : decode cX2_lightAt 14 = .ok (.goto 4, 3) := by decide +kernel
theorem dX2_lightAt_17 : decode cX2_lightAt 17 = .ok (.iconst 0, 1) := by decide +kernel
theorem dX2_lightAt_18 : decode cX2_lightAt 18 = .ok (.ireturn, 1) := by decide +kernel
set_option maxRecDepth 20000 in
theorem ggX2_depthAt_X2_thickAt : GoodIn wsX2_depthAt wsX2_thickAt := goodIn_r _ [6, 7, 8, 9, 10, 5, 11, 1, 12, 13, 14, 15, 16, 17, 18] (by decide +kernel) (by decide +kernel)
set_option maxRecDepth 20000 in
theorem gX2_depthAt_X2_thickAt : GoodIn wsX2_depthAt (wsV RX2 38 RX2 yX2_thickAt wsX2_thickAt) := goodIn_app (goodIn_of _ (by decide +kernel)) ggX2_depthAt_X2_thickAt
theorem dX2_depthAt_0 : decode cX2_depthAt 0 = .ok (.iconst 0, 1) := by decide +kernel
theorem dX2_depthAt_1 : decode cX2_depthAt 1 = .ok (.istore_n 2, 1) := by decide +kernel
theorem dX2_depthAt_2 : decode cX2_depthAt 2 = .ok (.aload_n 0, 1) := by decide +kernel
theorem dX2_depthAt_3 : decode cX2_depthAt 3 = .ok (.getfield 30, 3) := by decide +kernel
theorem dX2_depthAt_6 : decode cX2_depthAt 6 = .ok (.iconst 1, 1) := by decide +kernel
theorem dX2_depthAt_7 : decode cX2_depthAt 7 = .ok (.isub, 1) := by decide +kernel
theorem dX2_depthAt_8 : decode cX2_depthAt 8 = .ok (.istore_n 3, 1) := by decide +kernel
theorem dX2_depthAt_9 : decode cX2_depthAt 9 = .ok (.iload_n 3, 1) := by decide +kernel
theorem dX2_depthAt_10 : decode cX2_depthAt 10 = .ok (.iload_n 1, 1) := by decide +kernel
theorem dX2_depthAt_11 : decode cX2_depthAt 11 = .ok (.if_icmp .le 17, 3) := by decide +kernel
theorem dX2_depthAt_14 : decode cX2_depthAt 14 = .ok (.iload_n 2, 1) := by decide +kernel
theorem dX2_depthAt_15 : decode cX2_depthAt 15 = .ok (.aload_n 0, 1) := by decide +kernel
theorem dX2_depthAt_16 : decode cX2_depthAt 16 = .ok (.iload_n 3, 1) := by decide +kernel
theorem dX2_depthAt_17 : decode cX2_depthAt 17 = .ok (.invokevirtual 38, 3) := by decide +kernel
theorem dX2_depthAt_20 : decode cX2_depthAt 20 = .ok (.iadd, 1) := by decide +kernel
theorem dX2_depthAt_21 : decode cX2_depthAt 21 = .ok (.istore_n 2, 1) := by decide +kernel
theorem dX2_depthAt_22 : decode cX2_depthAt 22 = .ok (.iinc 3 (-1), 3) := by decide +kernel
theorem dX2_depthAt_25 : decode cX2_depthAt 25 = .ok (.goto (-16), 3) := by decide +kernel
theorem dX2_depthAt_28 : decode cX2_depthAt 28 = .ok (.iload_n 2, 1) := by decide +kernel
theorem dX2_depthAt_29 : decode cX2_depthAt 29 = .ok (.ireturn, 1) := by decide +kernel
set_option maxRecDepth 20000 in
theorem ggX2_ice_X2_depthAt : GoodIn wsX2_ice wsX2_depthAt := goodIn_r _ [5, 6, 7, 8, 9, 4, 10, 11, 12, 13, 14, 15, 16, 17, 18, 19, 20, 21, 22] (by decide +kernel) (by decide +kernel)
set_option maxRecDepth 20000 in
theorem gX2_ice_X2_depthAt : GoodIn wsX2_ice (wsV RX2 42 RX2 yX2_depthAt wsX2_depthAt) := goodIn_app (goodIn_of _ (by decide +kernel)) ggX2_ice_X2_depthAt
theorem dX2_ice_0 : decode cX2_ice 0 = .ok (.aload_n 0, 1) := by decide +kernel
theorem dX2_ice_1 : decode cX2_ice 1 = .ok (.iconst (-1), 1) := by decide +kernel
theorem dX2_ice_2 : decode cX2_ice 2 = .ok (.invokevirtual 42, 3) := by decide +kernel
theorem dX2_ice_5 : decode cX2_ice 5 = .ok (.ireturn, 1) := by decide +kernel
set_option maxRecDepth 20000 in
theorem ggX2_canRead_X2_has : GoodIn wsX2_canRead wsX2_has := goodIn_r _ [5, 6, 21, 22, 23, 24, 25, 26, 27] (by decide +kernel) (by decide +kernel)
set_option maxRecDepth 20000 in
theorem gX2_canRead_X2_has : GoodIn wsX2_canRead (wsV RX2 34 RX2 yX2_has wsX2_has) := goodIn_app (goodIn_of _ (by decide +kernel)) ggX2_canRead_X2_has
set_option maxRecDepth 20000 in
theorem ggX2_canRead_X2_depthAt : GoodIn wsX2_canRead wsX2_depthAt := goodIn_r _ [10, 6, 11, 12, 13, 4, 14, 15, 1, 2, 3, 5, 21, 22, 23, 24, 25, 26, 27] (by decide +kernel) (by decide +kernel)
set_option maxRecDepth 20000 in
theorem gX2_canRead_X2_depthAt : GoodIn wsX2_canRead (wsV RX2 42 RX2 yX2_depthAt wsX2_depthAt) := goodIn_app (goodIn_of _ (by decide +kernel)) ggX2_canRead_X2_depthAt
set_option maxRecDepth 20000 in
theorem ggX2_canRead_X2_lightAt : GoodIn wsX2_canRead wsX2_lightAt := goodIn_r _ [19, 20, 1, 2, 3, 4, 5, 6, 21, 22, 23, 24, 25, 26, 27] (by decide +kernel) (by decide +kernel)
set_option maxRecDepth 20000 in
theorem gX2_canRead_X2_lightAt : GoodIn wsX2_canRead (wsV RX2 45 RX2 yX2_lightAt wsX2_lightAt) := goodIn_app (goodIn_of _ (by decide +kernel)) ggX2_canRead_X2_lightAt
theorem dX2_canRead_0 : decode cX2_canRead 0 = .ok (.aload_n 0, 1) := by decide +kernel
theorem dX2_canRead_1 : decode cX2_canRead 1 = .ok (.iload_n 1, 1) := by decide +kernel
theorem dX2_canRead_2 : decode cX2_canRead 2 = .ok (.invokevirtual 34, 3) := by decide +kernel
theorem dX2_canRead_5 : decode cX2_canRead 5 = .ok (.ifCond .eq 20, 3) := by decide +kernel
theorem dX2_canRead_8 : decode cX2_canRead 8 = .ok (.aload_n 0, 1) := by decide +kernel
theorem dX2_canRead_9 : decode cX2_canRead 9 = .ok (.iload_n 1, 1) := by decide +kernel
theorem dX2_canRead_10 : decode cX2_canRead 10 = .ok (.invokevirtual 42, 3) := by decide +kernel
theorem dX2_canRead_13 : decode cX2_canRead 13 = .ok (.aload_n 0, 1) := by decide +kernel
theorem dX2_canRead_14 : decode cX2_canRead 14 = .ok (.iload_n 1, 1) := by decide +kernel
theorem dX2_canRead_15 : decode cX2_canRead 15 = .ok (.invokevirtual 45, 3) := by decide +kernel
theorem dX2_canRead_18 : decode cX2_canRead 18 = .ok (.if_icmp .gt 7, 3) := by decide +kernel
theorem dX2_canRead_21 : decode cX2_canRead 21 = .ok (.iconst 1, 1) := by decide +kernel
theorem dX2_canRead_22 : decode cX2_canRead 22 = .ok (.goto 4, 3) := by decide +kernel
theorem dX2_canRead_25 : decode cX2_canRead 25 = .ok (.iconst 0, 1) := by decide +kernel
theorem dX2_canRead_26 : decode cX2_canRead 26 = .ok (.ireturn, 1) := by decide +kernel
set_option maxRecDepth 20000 in
theorem ggX2_tellOf_X2_has : GoodIn wsX2_tellOf wsX2_has := goodIn_r _ [6, 7, 36, 37, 38, 39, 40, 41, 42] (by decide +kernel) (by decide +kernel)
set_option maxRecDepth 20000 in
theorem gX2_tellOf_X2_has : GoodIn wsX2_tellOf (wsV RX2 34 RX2 yX2_has wsX2_has) := goodIn_app (goodIn_of _ (by decide +kernel)) ggX2_tellOf_X2_has
set_option maxRecDepth 20000 in
theorem ggX2_tellOf_X2_oathAt : GoodIn wsX2_tellOf wsX2_oathAt := goodIn_r _ [11, 12, 2, 3, 4, 5, 6, 7, 36, 37, 38, 39, 40, 41, 42] (by decide +kernel) (by decide +kernel)
set_option maxRecDepth 20000 in
theorem gX2_tellOf_X2_oathAt : GoodIn wsX2_tellOf (wsV RX2 48 RX2 yX2_oathAt wsX2_oathAt) := goodIn_app (goodIn_of _ (by decide +kernel)) ggX2_tellOf_X2_oathAt
set_option maxRecDepth 20000 in
theorem ggX2_tellOf_X2_winterAt : GoodIn wsX2_tellOf wsX2_winterAt := goodIn_r _ [16, 17, 2, 3, 4, 5, 6, 7, 36, 37, 38, 39, 40, 41, 42] (by decide +kernel) (by decide +kernel)
set_option maxRecDepth 20000 in
theorem gX2_tellOf_X2_winterAt : GoodIn wsX2_tellOf (wsV RX2 51 RX2 yX2_winterAt wsX2_winterAt) := goodIn_app (goodIn_of _ (by decide +kernel)) ggX2_tellOf_X2_winterAt
set_option maxRecDepth 20000 in
theorem ggX2_tellOf_X2_thickAt : GoodIn wsX2_tellOf wsX2_thickAt := goodIn_r _ [21, 22, 2, 3, 4, 5, 6, 7, 36, 37, 38, 39, 40, 41, 42] (by decide +kernel) (by decide +kernel)
set_option maxRecDepth 20000 in
theorem gX2_tellOf_X2_thickAt : GoodIn wsX2_tellOf (wsV RX2 38 RX2 yX2_thickAt wsX2_thickAt) := goodIn_app (goodIn_of _ (by decide +kernel)) ggX2_tellOf_X2_thickAt
set_option maxRecDepth 20000 in
theorem ggX2_tellOf_X2_depthAt : GoodIn wsX2_tellOf wsX2_depthAt := goodIn_r _ [26, 7, 18, 19, 20, 5, 21, 22, 2, 3, 4, 6, 36, 37, 38, 39, 40, 41, 42] (by decide +kernel) (by decide +kernel)
set_option maxRecDepth 20000 in
theorem gX2_tellOf_X2_depthAt : GoodIn wsX2_tellOf (wsV RX2 42 RX2 yX2_depthAt wsX2_depthAt) := goodIn_app (goodIn_of _ (by decide +kernel)) ggX2_tellOf_X2_depthAt
set_option maxRecDepth 20000 in
theorem ggX2_tellOf_X2_canRead : GoodIn wsX2_tellOf wsX2_canRead := goodIn_r _ [30, 2, 3, 4, 5, 6, 7, 23, 24, 25, 26, 18, 19, 20, 21, 22, 31, 32, 33, 34, 35, 36, 37, 38, 39, 40, 41, 42] (by decide +kernel) (by decide +kernel)
set_option maxRecDepth 20000 in
theorem gX2_tellOf_X2_canRead : GoodIn wsX2_tellOf (wsV RX2 54 RX2 yX2_canRead wsX2_canRead) := goodIn_app (goodIn_of _ (by decide +kernel)) ggX2_tellOf_X2_canRead
theorem dX2_tellOf_0 : decode cX2_tellOf 0 = .ok (.iload_n 2, 1) := by decide +kernel
theorem dX2_tellOf_1 : decode cX2_tellOf 1 = .ok (.tableswitch 96 0 5 #[39, 58, 64, 70, 76, 82], 39) := by decide +kernel
theorem dX2_tellOf_40 : decode cX2_tellOf 40 = .ok (.aload_n 0, 1) := by decide +kernel
theorem dX2_tellOf_41 : decode cX2_tellOf 41 = .ok (.iload_n 1, 1) := by decide +kernel
theorem dX2_tellOf_42 : decode cX2_tellOf 42 = .ok (.invokevirtual 34, 3) := by decide +kernel
theorem dX2_tellOf_45 : decode cX2_tellOf 45 = .ok (.ifCond .eq 12, 3) := by decide +kernel
theorem dX2_tellOf_48 : decode cX2_tellOf 48 = .ok (.aload_n 0, 1) := by decide +kernel
theorem dX2_tellOf_49 : decode cX2_tellOf 49 = .ok (.getfield 9, 3) := by decide +kernel
theorem dX2_tellOf_52 : decode cX2_tellOf 52 = .ok (.iload_n 1, 1) := by decide +kernel
theorem dX2_tellOf_53 : decode cX2_tellOf 53 = .ok (.iaload, 1) := by decide +kernel
theorem dX2_tellOf_54 : decode cX2_tellOf 54 = .ok (.goto 4, 3) := by decide +kernel
theorem dX2_tellOf_57 : decode cX2_tellOf 57 = .ok (.iconst 0, 1) := by decide +kernel
theorem dX2_tellOf_58 : decode cX2_tellOf 58 = .ok (.ireturn, 1) := by decide +kernel
theorem dX2_tellOf_59 : decode cX2_tellOf 59 = .ok (.aload_n 0, 1) := by decide +kernel
theorem dX2_tellOf_60 : decode cX2_tellOf 60 = .ok (.iload_n 1, 1) := by decide +kernel
theorem dX2_tellOf_61 : decode cX2_tellOf 61 = .ok (.invokevirtual 48, 3) := by decide +kernel
theorem dX2_tellOf_64 : decode cX2_tellOf 64 = .ok (.ireturn, 1) := by decide +kernel
theorem dX2_tellOf_65 : decode cX2_tellOf 65 = .ok (.aload_n 0, 1) := by decide +kernel
theorem dX2_tellOf_66 : decode cX2_tellOf 66 = .ok (.iload_n 1, 1) := by decide +kernel
theorem dX2_tellOf_67 : decode cX2_tellOf 67 = .ok (.invokevirtual 51, 3) := by decide +kernel
theorem dX2_tellOf_70 : decode cX2_tellOf 70 = .ok (.ireturn, 1) := by decide +kernel
theorem dX2_tellOf_71 : decode cX2_tellOf 71 = .ok (.aload_n 0, 1) := by decide +kernel
theorem dX2_tellOf_72 : decode cX2_tellOf 72 = .ok (.iload_n 1, 1) := by decide +kernel
theorem dX2_tellOf_73 : decode cX2_tellOf 73 = .ok (.invokevirtual 38, 3) := by decide +kernel
theorem dX2_tellOf_76 : decode cX2_tellOf 76 = .ok (.ireturn, 1) := by decide +kernel
theorem dX2_tellOf_77 : decode cX2_tellOf 77 = .ok (.aload_n 0, 1) := by decide +kernel
theorem dX2_tellOf_78 : decode cX2_tellOf 78 = .ok (.iload_n 1, 1) := by decide +kernel
theorem dX2_tellOf_79 : decode cX2_tellOf 79 = .ok (.invokevirtual 42, 3) := by decide +kernel
theorem dX2_tellOf_82 : decode cX2_tellOf 82 = .ok (.ireturn, 1) := by decide +kernel
theorem dX2_tellOf_83 : decode cX2_tellOf 83 = .ok (.aload_n 0, 1) := by decide +kernel
theorem dX2_tellOf_84 : decode cX2_tellOf 84 = .ok (.iload_n 1, 1) := by decide +kernel
theorem dX2_tellOf_85 : decode cX2_tellOf 85 = .ok (.invokevirtual 54, 3) := by decide +kernel
theorem dX2_tellOf_88 : decode cX2_tellOf 88 = .ok (.ifCond .eq 7, 3) := by decide +kernel
theorem dX2_tellOf_91 : decode cX2_tellOf 91 = .ok (.iconst 1, 1) := by decide +kernel
theorem dX2_tellOf_92 : decode cX2_tellOf 92 = .ok (.goto 4, 3) := by decide +kernel
theorem dX2_tellOf_95 : decode cX2_tellOf 95 = .ok (.iconst 0, 1) := by decide +kernel
theorem dX2_tellOf_96 : decode cX2_tellOf 96 = .ok (.ireturn, 1) := by decide +kernel
theorem dX2_tellOf_97 : decode cX2_tellOf 97 = .ok (.iconst (-1), 1) := by decide +kernel
theorem dX2_tellOf_98 : decode cX2_tellOf 98 = .ok (.ireturn, 1) := by decide +kernel
set_option maxRecDepth 20000 in
theorem ggX2_freezeOn_X0_fingersIn : GoodIn wsX2_freezeOn wsX0_fingersIn := goodIn_r _ [14, 15, 16, 17, 18, 19, 20, 21, 9, 22, 23, 24, 25] (by decide +kernel) (by decide +kernel)
set_option maxRecDepth 20000 in
theorem gX2_freezeOn_X0_fingersIn_u57X0 : GoodIn wsX2_freezeOn (va_wsO RX2 57 RX0 "SaidInWinter$Layer" ⟨"SaidInWinter$Layer", "fingersIn", "(II)I"⟩ yX0_fingersIn wsX0_fingersIn) := goodIn_app (goodIn_of _ (by decide +kernel)) ggX2_freezeOn_X0_fingersIn
set_option maxRecDepth 20000 in
theorem ggX2_freezeOn_X3_fingersIn : GoodIn wsX2_freezeOn wsX3_fingersIn := goodIn_r _ [20, 21, 9, 22, 23, 24, 25] (by decide +kernel) (by decide +kernel)
set_option maxRecDepth 20000 in
theorem gX2_freezeOn_X3_fingersIn_u57X1 : GoodIn wsX2_freezeOn (va_wsO RX2 57 RX1 "SaidInWinter$Layer" ⟨"SaidInWinter$Layer", "fingersIn", "(II)I"⟩ yX3_fingersIn wsX3_fingersIn) := goodIn_app (goodIn_of _ (by decide +kernel)) ggX2_freezeOn_X3_fingersIn
set_option maxRecDepth 20000 in
theorem gX2_freezeOn_X3_fingersIn_u57X3 : GoodIn wsX2_freezeOn (va_wsO RX2 57 RX3 "SaidInWinter$Layer" ⟨"SaidInWinter$Layer", "fingersIn", "(II)I"⟩ yX3_fingersIn wsX3_fingersIn) := goodIn_app (goodIn_of _ (by decide +kernel)) ggX2_freezeOn_X3_fingersIn
set_option maxRecDepth 20000 in
theorem ggX2_freezeOn_X10_fingersIn : GoodIn wsX2_freezeOn wsX10_fingersIn := goodIn_r _ [31, 32, 9, 33, 23, 24, 25] (by decide +kernel) (by decide +kernel)
set_option maxRecDepth 20000 in
theorem gX2_freezeOn_X10_fingersIn_u57X4 : GoodIn wsX2_freezeOn (va_wsO RX2 57 RX4 "SaidInWinter$Layer" ⟨"SaidInWinter$Layer", "fingersIn", "(II)I"⟩ yX10_fingersIn wsX10_fingersIn) := goodIn_app (goodIn_of _ (by decide +kernel)) ggX2_freezeOn_X10_fingersIn
set_option maxRecDepth 20000 in
theorem ggX2_freezeOn_X5_fingersIn : GoodIn wsX2_freezeOn wsX5_fingersIn := goodIn_r _ [37, 38, 39, 40, 41, 42, 9, 43, 23, 24, 25] (by decide +kernel) (by decide +kernel)
set_option maxRecDepth 20000 in
theorem gX2_freezeOn_X5_fingersIn_u57X5 : GoodIn wsX2_freezeOn (va_wsO RX2 57 RX5 "SaidInWinter$Layer" ⟨"SaidInWinter$Layer", "fingersIn", "(II)I"⟩ yX5_fingersIn wsX5_fingersIn) := goodIn_app (goodIn_of _ (by decide +kernel)) ggX2_freezeOn_X5_fingersIn
set_option maxRecDepth 20000 in
theorem ggX2_freezeOn_X7_fingersIn : GoodIn wsX2_freezeOn wsX7_fingersIn := goodIn_r _ [25] (by decide +kernel) (by decide +kernel)
set_option maxRecDepth 20000 in
theorem gX2_freezeOn_X7_fingersIn : GoodIn wsX2_freezeOn (wsV RX2 57 RX7 yX7_fingersIn wsX7_fingersIn) := goodIn_app (goodIn_of _ (by decide +kernel)) ggX2_freezeOn_X7_fingersIn
set_option maxRecDepth 20000 in
theorem ggX2_freezeOn_X8_fingersIn : GoodIn wsX2_freezeOn wsX8_fingersIn := goodIn_r _ [49, 50, 51, 52, 29, 30, 31, 32, 9, 33, 23, 24, 25] (by decide +kernel) (by decide +kernel)
set_option maxRecDepth 20000 in
theorem gX2_freezeOn_X8_fingersIn_u57X8 : GoodIn wsX2_freezeOn (va_wsO RX2 57 RX8 "SaidInWinter$Layer" ⟨"SaidInWinter$Layer", "fingersIn", "(II)I"⟩ yX8_fingersIn wsX8_fingersIn) := goodIn_app (goodIn_of _ (by decide +kernel)) ggX2_freezeOn_X8_fingersIn
set_option maxRecDepth 20000 in
theorem gX2_freezeOn_X10_fingersIn_u57X10 : GoodIn wsX2_freezeOn (va_wsO RX2 57 RX10 "SaidInWinter$Layer" ⟨"SaidInWinter$Layer", "fingersIn", "(II)I"⟩ yX10_fingersIn wsX10_fingersIn) := goodIn_app (goodIn_of _ (by decide +kernel)) ggX2_freezeOn_X10_fingersIn
set_option maxRecDepth 20000 in
theorem ggX2_freezeOn_X3_melts : GoodIn wsX2_freezeOn wsX3_melts := goodIn_r _ [59, 60, 55, 22, 61, 24, 62] (by decide +kernel) (by decide +kernel)
set_option maxRecDepth 20000 in
theorem gX2_freezeOn_X3_melts_u63X0 : GoodIn wsX2_freezeOn (va_wsO RX2 63 RX0 "SaidInWinter$Layer" ⟨"SaidInWinter$Layer", "melts", "(I)I"⟩ yX3_melts wsX3_melts) := goodIn_app (goodIn_of _ (by decide +kernel)) ggX2_freezeOn_X3_melts
set_option maxRecDepth 20000 in
theorem ggX2_freezeOn_X1_melts : GoodIn wsX2_freezeOn wsX1_melts := goodIn_r _ [66, 67, 68, 69, 58, 19, 59, 60, 55, 22, 61, 24, 62] (by decide +kernel) (by decide +kernel)
set_option maxRecDepth 20000 in
theorem gX2_freezeOn_X1_melts_u63X1 : GoodIn wsX2_freezeOn (va_wsO RX2 63 RX1 "SaidInWinter$Layer" ⟨"SaidInWinter$Layer", "melts", "(I)I"⟩ yX1_melts wsX1_melts) := goodIn_app (goodIn_of _ (by decide +kernel)) ggX2_freezeOn_X1_melts
set_option maxRecDepth 20000 in
theorem gX2_freezeOn_X3_melts_u63X3 : GoodIn wsX2_freezeOn (va_wsO RX2 63 RX3 "SaidInWinter$Layer" ⟨"SaidInWinter$Layer", "melts", "(I)I"⟩ yX3_melts wsX3_melts) := goodIn_app (goodIn_of _ (by decide +kernel)) ggX2_freezeOn_X3_melts
set_option maxRecDepth 20000 in
theorem ggX2_freezeOn_X4_melts : GoodIn wsX2_freezeOn wsX4_melts := goodIn_r _ [74, 75, 76, 77, 78, 30, 79, 80, 55, 33, 61, 24, 62] (by decide +kernel) (by decide +kernel)
set_option maxRecDepth 20000 in
theorem gX2_freezeOn_X4_melts_u63X4 : GoodIn wsX2_freezeOn (va_wsO RX2 63 RX4 "SaidInWinter$Layer" ⟨"SaidInWinter$Layer", "melts", "(I)I"⟩ yX4_melts wsX4_melts) := goodIn_app (goodIn_of _ (by decide +kernel)) ggX2_freezeOn_X4_melts
set_option maxRecDepth 20000 in
theorem ggX2_freezeOn_X5_melts : GoodIn wsX2_freezeOn wsX5_melts := goodIn_r _ [83, 84, 55, 43, 61, 24, 62] (by decide +kernel) (by decide +kernel)
set_option maxRecDepth 20000 in
theorem gX2_freezeOn_X5_melts_u63X5 : GoodIn wsX2_freezeOn (va_wsO RX2 63 RX5 "SaidInWinter$Layer" ⟨"SaidInWinter$Layer", "melts", "(I)I"⟩ yX5_melts wsX5_melts) := goodIn_app (goodIn_of _ (by decide +kernel)) ggX2_freezeOn_X5_melts
set_option maxRecDepth 20000 in
theorem ggX2_freezeOn_X7_melts : GoodIn wsX2_freezeOn wsX7_melts := goodIn_r _ [62] (by decide +kernel) (by decide +kernel)
set_option maxRecDepth 20000 in
theorem gX2_freezeOn_X7_melts : GoodIn wsX2_freezeOn (wsV RX2 63 RX7 yX7_melts wsX7_melts) := goodIn_app (goodIn_of _ (by decide +kernel)) ggX2_freezeOn_X7_melts
set_option maxRecDepth 20000 in
theorem ggX2_freezeOn_X8_melts : GoodIn wsX2_freezeOn wsX8_melts := goodIn_r _ [89, 90, 76, 52, 78, 30, 79, 80, 55, 33, 61, 24, 62] (by decide +kernel) (by decide +kernel)
set_option maxRecDepth 20000 in
theorem gX2_freezeOn_X8_melts_u63X8 : GoodIn wsX2_freezeOn (va_wsO RX2 63 RX8 "SaidInWinter$Layer" ⟨"SaidInWinter$Layer", "melts", "(I)I"⟩ yX8_melts wsX8_melts) := goodIn_app (goodIn_of _ (by decide +kernel)) ggX2_freezeOn_X8_melts
set_option maxRecDepth 20000 in
theorem ggX2_freezeOn_X10_melts : GoodIn wsX2_freezeOn wsX10_melts := goodIn_r _ [79, 80, 55, 33, 61, 24, 62] (by decide +kernel) (by decide +kernel)
set_option maxRecDepth 20000 in
theorem gX2_freezeOn_X10_melts_u63X10 : GoodIn wsX2_freezeOn (va_wsO RX2 63 RX10 "SaidInWinter$Layer" ⟨"SaidInWinter$Layer", "melts", "(I)I"⟩ yX10_melts wsX10_melts) := goodIn_app (goodIn_of _ (by decide +kernel)) ggX2_freezeOn_X10_melts
set_option maxRecDepth 20000 in
theorem ggX2_freezeOn_X0_light : GoodIn wsX2_freezeOn wsX0_light := goodIn_r _ [97, 98, 99, 17, 100, 19, 101, 102, 93, 22, 103, 24, 104] (by decide +kernel) (by decide +kernel)
set_option maxRecDepth 20000 in
theorem gX2_freezeOn_X0_light_u65X0 : GoodIn wsX2_freezeOn (va_wsO RX2 65 RX0 "SaidInWinter$Layer" ⟨"SaidInWinter$Layer", "light", "(I)I"⟩ yX0_light wsX0_light) := goodIn_app (goodIn_of _ (by decide +kernel)) ggX2_freezeOn_X0_light
set_option maxRecDepth 20000 in
theorem ggX2_freezeOn_X1_light : GoodIn wsX2_freezeOn wsX1_light := goodIn_r _ [107, 108, 99, 69, 100, 19, 101, 102, 93, 22, 103, 24, 104] (by decide +kernel) (by decide +kernel)
set_option maxRecDepth 20000 in
theorem gX2_freezeOn_X1_light_u65X1 : GoodIn wsX2_freezeOn (va_wsO RX2 65 RX1 "SaidInWinter$Layer" ⟨"SaidInWinter$Layer", "light", "(I)I"⟩ yX1_light wsX1_light) := goodIn_app (goodIn_of _ (by decide +kernel)) ggX2_freezeOn_X1_light
set_option maxRecDepth 20000 in
theorem ggX2_freezeOn_X3_light : GoodIn wsX2_freezeOn wsX3_light := goodIn_r _ [101, 102, 93, 22, 103, 24, 104] (by decide +kernel) (by decide +kernel)
set_option maxRecDepth 20000 in
theorem gX2_freezeOn_X3_light_u65X3 : GoodIn wsX2_freezeOn (va_wsO RX2 65 RX3 "SaidInWinter$Layer" ⟨"SaidInWinter$Layer", "light", "(I)I"⟩ yX3_light wsX3_light) := goodIn_app (goodIn_of _ (by decide +kernel)) ggX2_freezeOn_X3_light
set_option maxRecDepth 20000 in
theorem ggX2_freezeOn_X4_light : GoodIn wsX2_freezeOn wsX4_light := goodIn_r _ [112] (by decide +kernel) (by decide +kernel)
set_option maxRecDepth 20000 in
theorem gX2_freezeOn_X4_light_u65X4 : GoodIn wsX2_freezeOn (va_wsO RX2 65 RX4 "SaidInWinter$Layer" ⟨"SaidInWinter$Layer", "light", "(I)I"⟩ yX4_light wsX4_light) := goodIn_app (goodIn_of _ (by decide +kernel)) ggX2_freezeOn_X4_light
set_option maxRecDepth 20000 in
theorem ggX2_freezeOn_X7_light : GoodIn wsX2_freezeOn wsX7_light := goodIn_r _ [104] (by decide +kernel) (by decide +kernel)
set_option maxRecDepth 20000 in
theorem gX2_freezeOn_X7_light_u65X5 : GoodIn wsX2_freezeOn (va_wsU RX2 65 RX5 "SaidInWinter$Layer" ⟨"SaidInWinter$Layer", "light", "(I)I"⟩ yX7_light wsX7_light) := goodIn_app (goodIn_of _ (by decide +kernel)) ggX2_freezeOn_X7_light
set_option maxRecDepth 20000 in
theorem gX2_freezeOn_X7_light : GoodIn wsX2_freezeOn (wsV RX2 65 RX7 yX7_light wsX7_light) := goodIn_app (goodIn_of _ (by decide +kernel)) ggX2_freezeOn_X7_light
set_option maxRecDepth 20000 in
theorem ggX2_freezeOn_X10_light : GoodIn wsX2_freezeOn wsX10_light := goodIn_r _ [118, 119, 93, 33, 103, 24, 104] (by decide +kernel) (by decide +kernel)
set_option maxRecDepth 20000 in
theorem gX2_freezeOn_X10_light_u65X8 : GoodIn wsX2_freezeOn (va_wsO RX2 65 RX8 "SaidInWinter$Layer" ⟨"SaidInWinter$Layer", "light", "(I)I"⟩ yX10_light wsX10_light) := goodIn_app (goodIn_of _ (by decide +kernel)) ggX2_freezeOn_X10_light
set_option maxRecDepth 20000 in
theorem gX2_freezeOn_X10_light_u65X10 : GoodIn wsX2_freezeOn (va_wsO RX2 65 RX10 "SaidInWinter$Layer" ⟨"SaidInWinter$Layer", "light", "(I)I"⟩ yX10_light wsX10_light) := goodIn_app (goodIn_of _ (by decide +kernel)) ggX2_freezeOn_X10_light
theorem dX2_freezeOn_0 : decode cX2_freezeOn 0 = .ok (.aload_n 0, 1) := by decide +kernel
theorem dX2_freezeOn_1 : decode cX2_freezeOn 1 = .ok (.getfield 30, 3) := by decide +kernel
theorem dX2_freezeOn_4 : decode cX2_freezeOn 4 = .ok (.istore 6, 2) := by decide +kernel
theorem dX2_freezeOn_6 : decode cX2_freezeOn 6 = .ok (.iload 6, 2) := by decide +kernel
theorem dX2_freezeOn_8 : decode cX2_freezeOn 8 = .ok (.ifCond .lt 10, 3) := by decide +kernel
theorem dX2_freezeOn_11 : decode cX2_freezeOn 11 = .ok (.iload 6, 2) := by decide +kernel
theorem dX2_freezeOn_13 : decode cX2_freezeOn 13 = .ok (.bipush 8, 2) := by decide +kernel
theorem dX2_freezeOn_15 : decode cX2_freezeOn 15 = .ok (.if_icmp .lt 6, 3) := by decide +kernel
theorem dX2_freezeOn_18 : decode cX2_freezeOn 18 = .ok (.bipush (-2), 2) := by decide +kernel
theorem dX2_freezeOn_20 : decode cX2_freezeOn 20 = .ok (.ireturn, 1) := by decide +kernel
theorem dX2_freezeOn_21 : decode cX2_freezeOn 21 = .ok (.aload_n 0, 1) := by decide +kernel
theorem dX2_freezeOn_22 : decode cX2_freezeOn 22 = .ok (.getfield 9, 3) := by decide +kernel
theorem dX2_freezeOn_25 : decode cX2_freezeOn 25 = .ok (.iload 6, 2) := by decide +kernel
theorem dX2_freezeOn_27 : decode cX2_freezeOn 27 = .ok (.iload_n 2, 1) := by decide +kernel
theorem dX2_freezeOn_28 : decode cX2_freezeOn 28 = .ok (.iastore, 1) := by decide +kernel
theorem dX2_freezeOn_29 : decode cX2_freezeOn 29 = .ok (.aload_n 0, 1) := by decide +kernel
theorem dX2_freezeOn_30 : decode cX2_freezeOn 30 = .ok (.getfield 15, 3) := by decide +kernel
theorem dX2_freezeOn_33 : decode cX2_freezeOn 33 = .ok (.iload 6, 2) := by decide +kernel
theorem dX2_freezeOn_35 : decode cX2_freezeOn 35 = .ok (.iload_n 3, 1) := by decide +kernel
theorem dX2_freezeOn_36 : decode cX2_freezeOn 36 = .ok (.iastore, 1) := by decide +kernel
theorem dX2_freezeOn_37 : decode cX2_freezeOn 37 = .ok (.aload_n 0, 1) := by decide +kernel
theorem dX2_freezeOn_38 : decode cX2_freezeOn 38 = .ok (.getfield 18, 3) := by decide +kernel
theorem dX2_freezeOn_41 : decode cX2_freezeOn 41 = .ok (.iload 6, 2) := by decide +kernel
theorem dX2_freezeOn_43 : decode cX2_freezeOn 43 = .ok (.iload 5, 2) := by decide +kernel
theorem dX2_freezeOn_45 : decode cX2_freezeOn 45 = .ok (.iastore, 1) := by decide +kernel
theorem dX2_freezeOn_46 : decode cX2_freezeOn 46 = .ok (.aload_n 0, 1) := by decide +kernel
theorem dX2_freezeOn_47 : decode cX2_freezeOn 47 = .ok (.getfield 21, 3) := by decide +kernel
theorem dX2_freezeOn_50 : decode cX2_freezeOn 50 = .ok (.iload 6, 2) := by decide +kernel
theorem dX2_freezeOn_52 : decode cX2_freezeOn 52 = .ok (.aload_n 1, 1) := by decide +kernel
theorem dX2_freezeOn_53 : decode cX2_freezeOn 53 = .ok (.iload 4, 2) := by decide +kernel
theorem dX2_freezeOn_55 : decode cX2_freezeOn 55 = .ok (.iload_n 3, 1) := by decide +kernel
theorem dX2_freezeOn_56 : decode cX2_freezeOn 56 = .ok (.invokevirtual 57, 3) := by decide +kernel
theorem dX2_freezeOn_59 : decode cX2_freezeOn 59 = .ok (.iastore, 1) := by decide +kernel
theorem dX2_freezeOn_60 : decode cX2_freezeOn 60 = .ok (.aload_n 0, 1) := by decide +kernel
theorem dX2_freezeOn_61 : decode cX2_freezeOn 61 = .ok (.getfield 24, 3) := by decide +kernel
theorem dX2_freezeOn_64 : decode cX2_freezeOn 64 = .ok (.iload 6, 2) := by decide +kernel
theorem dX2_freezeOn_66 : decode cX2_freezeOn 66 = .ok (.aload_n 1, 1) := by decide +kernel
theorem dX2_freezeOn_67 : decode cX2_freezeOn 67 = .ok (.iload_n 3, 1) := by decide +kernel
theorem dX2_freezeOn_68 : decode cX2_freezeOn 68 = .ok (.invokevirtual 63, 3) := by decide +kernel
theorem dX2_freezeOn_71 : decode cX2_freezeOn 71 = .ok (.iastore, 1) := by decide +kernel
theorem dX2_freezeOn_72 : decode cX2_freezeOn 72 = .ok (.aload_n 0, 1) := by decide +kernel
theorem dX2_freezeOn_73 : decode cX2_freezeOn 73 = .ok (.getfield 27, 3) := by decide +kernel
theorem dX2_freezeOn_76 : decode cX2_freezeOn 76 = .ok (.iload 6, 2) := by decide +kernel
theorem dX2_freezeOn_78 : decode cX2_freezeOn 78 = .ok (.aload_n 1, 1) := by decide +kernel
theorem dX2_freezeOn_79 : decode cX2_freezeOn 79 = .ok (.iload_n 3, 1) := by decide +kernel
theorem dX2_freezeOn_80 : decode cX2_freezeOn 80 = .ok (.invokevirtual 65, 3) := by decide +kernel
theorem dX2_freezeOn_83 : decode cX2_freezeOn 83 = .ok (.iastore, 1) := by decide +kernel
theorem dX2_freezeOn_84 : decode cX2_freezeOn 84 = .ok (.aload_n 0, 1) := by decide +kernel
theorem dX2_freezeOn_85 : decode cX2_freezeOn 85 = .ok (.dup, 1) := by decide +kernel
theorem dX2_freezeOn_86 : decode cX2_freezeOn 86 = .ok (.getfield 30, 3) := by decide +kernel
theorem dX2_freezeOn_89 : decode cX2_freezeOn 89 = .ok (.iconst 1, 1) := by decide +kernel
theorem dX2_freezeOn_90 : decode cX2_freezeOn 90 = .ok (.iadd, 1) := by decide +kernel
theorem dX2_freezeOn_91 : decode cX2_freezeOn 91 = .ok (.putfield 30, 3) := by decide +kernel
theorem dX2_freezeOn_94 : decode cX2_freezeOn 94 = .ok (.aload_n 0, 1) := by decide +kernel
theorem dX2_freezeOn_95 : decode cX2_freezeOn 95 = .ok (.getfield 21, 3) := by decide +kernel
theorem dX2_freezeOn_98 : decode cX2_freezeOn 98 = .ok (.iload 6, 2) := by decide +kernel
theorem dX2_freezeOn_100 : decode cX2_freezeOn 100 = .ok (.iaload, 1) := by decide +kernel
theorem dX2_freezeOn_101 : decode cX2_freezeOn 101 = .ok (.ireturn, 1) := by decide +kernel
set_option maxRecDepth 20000 in
theorem ggX2_warmDay_X2_has : GoodIn wsX2_warmDay wsX2_has := goodIn_r _ [10, 1, 25, 26, 27, 28, 29, 30, 31] (by decide +kernel) (by decide +kernel)
set_option maxRecDepth 20000 in
theorem gX2_warmDay_X2_has : GoodIn wsX2_warmDay (wsV RX2 34 RX2 yX2_has wsX2_has) := goodIn_app (goodIn_of _ (by decide +kernel)) ggX2_warmDay_X2_has
set_option maxRecDepth 20000 in
theorem ggX2_warmDay_X2_meltsAt : GoodIn wsX2_warmDay wsX2_meltsAt := goodIn_r _ [14, 15, 6, 7, 8, 9, 10, 1, 25, 26, 27, 28, 29, 30, 31] (by decide +kernel) (by decide +kernel)
set_option maxRecDepth 20000 in
theorem gX2_warmDay_X2_meltsAt : GoodIn wsX2_warmDay (wsV RX2 67 RX2 yX2_meltsAt wsX2_meltsAt) := goodIn_app (goodIn_of _ (by decide +kernel)) ggX2_warmDay_X2_meltsAt
set_option maxRecDepth 20000 in
theorem ggX2_warmDay_X2_thickAt : GoodIn wsX2_warmDay wsX2_thickAt := goodIn_r _ [19, 20, 6, 7, 8, 9, 10, 1, 25, 26, 27, 28, 29, 30, 31] (by decide +kernel) (by decide +kernel)
set_option maxRecDepth 20000 in
theorem gX2_warmDay_X2_thickAt : GoodIn wsX2_warmDay (wsV RX2 38 RX2 yX2_thickAt wsX2_thickAt) := goodIn_app (goodIn_of _ (by decide +kernel)) ggX2_warmDay_X2_thickAt
set_option maxRecDepth 20000 in
theorem ggX2_warmDay_X2_cutOff : GoodIn wsX2_warmDay wsX2_cutOff := goodIn_r _ [24, 1, 2, 3, 4, 5, 20, 6, 7, 8, 9, 10, 16, 17, 18, 19, 25, 26, 27, 28, 29, 30, 31] (by decide +kernel) (by decide +kernel)
set_option maxRecDepth 20000 in
theorem gX2_warmDay_X2_cutOff : GoodIn wsX2_warmDay (wsV RX2 75 RX2 yX2_cutOff wsX2_cutOff) := goodIn_app (goodIn_of _ (by decide +kernel)) ggX2_warmDay_X2_cutOff
theorem dX2_warmDay_0 : decode cX2_warmDay 0 = .ok (.aload_n 0, 1) := by decide +kernel
theorem dX2_warmDay_1 : decode cX2_warmDay 1 = .ok (.getfield 30, 3) := by decide +kernel
theorem dX2_warmDay_4 : decode cX2_warmDay 4 = .ok (.iconst 1, 1) := by decide +kernel
theorem dX2_warmDay_5 : decode cX2_warmDay 5 = .ok (.isub, 1) := by decide +kernel
theorem dX2_warmDay_6 : decode cX2_warmDay 6 = .ok (.istore_n 1, 1) := by decide +kernel
theorem dX2_warmDay_7 : decode cX2_warmDay 7 = .ok (.aload_n 0, 1) := by decide +kernel
theorem dX2_warmDay_8 : decode cX2_warmDay 8 = .ok (.iload_n 1, 1) := by decide +kernel
theorem dX2_warmDay_9 : decode cX2_warmDay 9 = .ok (.invokevirtual 34, 3) := by decide +kernel
theorem dX2_warmDay_12 : decode cX2_warmDay 12 = .ok (.ifCond .eq 23, 3) := by decide +kernel
theorem dX2_warmDay_15 : decode cX2_warmDay 15 = .ok (.aload_n 0, 1) := by decide +kernel
theorem dX2_warmDay_16 : decode cX2_warmDay 16 = .ok (.aload_n 0, 1) := by decide +kernel
theorem dX2_warmDay_17 : decode cX2_warmDay 17 = .ok (.iload_n 1, 1) := by decide +kernel
theorem dX2_warmDay_18 : decode cX2_warmDay 18 = .ok (.invokevirtual 67, 3) := by decide +kernel
theorem dX2_warmDay_21 : decode cX2_warmDay 21 = .ok (.aload_n 0, 1) := by decide +kernel
theorem dX2_warmDay_22 : decode cX2_warmDay 22 = .ok (.iload_n 1, 1) := by decide +kernel
theorem dX2_warmDay_23 : decode cX2_warmDay 23 = .ok (.invokevirtual 38, 3) := by decide +kernel
theorem dX2_warmDay_26 : decode cX2_warmDay 26 = .ok (.invokestatic 70, 3) := by decide +kernel
theorem dX2_warmDay_29 : decode cX2_warmDay 29 = .ok (.invokevirtual 75, 3) := by decide +kernel
theorem dX2_warmDay_32 : decode cX2_warmDay 32 = .ok (.goto 4, 3) := by decide +kernel
theorem dX2_warmDay_35 : decode cX2_warmDay 35 = .ok (.iconst 0, 1) := by decide +kernel
theorem dX2_warmDay_36 : decode cX2_warmDay 36 = .ok (.ireturn, 1) := by decide +kernel
set_option maxRecDepth 20000 in
theorem ggX2_cutOff_X2_has : GoodIn wsX2_cutOff wsX2_has := goodIn_r _ [11, 1, 16, 17, 18, 19, 20, 21, 22] (by decide +kernel) (by decide +kernel)
set_option maxRecDepth 20000 in
theorem gX2_cutOff_X2_has : GoodIn wsX2_cutOff (wsV RX2 34 RX2 yX2_has wsX2_has) := goodIn_app (goodIn_of _ (by decide +kernel)) ggX2_cutOff_X2_has
set_option maxRecDepth 20000 in
theorem ggX2_cutOff_X2_thickAt : GoodIn wsX2_cutOff wsX2_thickAt := goodIn_r _ [15, 6, 7, 8, 9, 10, 11, 1, 16, 17, 18, 19, 20, 21, 22] (by decide +kernel) (by decide +kernel)
set_option maxRecDepth 20000 in
theorem gX2_cutOff_X2_thickAt : GoodIn wsX2_cutOff (wsV RX2 38 RX2 yX2_thickAt wsX2_thickAt) := goodIn_app (goodIn_of _ (by decide +kernel)) ggX2_cutOff_X2_thickAt
theorem dX2_cutOff_0 : decode cX2_cutOff 0 = .ok (.aload_n 0, 1) := by decide +kernel
theorem dX2_cutOff_1 : decode cX2_cutOff 1 = .ok (.getfield 30, 3) := by decide +kernel
theorem dX2_cutOff_4 : decode cX2_cutOff 4 = .ok (.istore_n 2, 1) := by decide +kernel
theorem dX2_cutOff_5 : decode cX2_cutOff 5 = .ok (.iload_n 1, 1) := by decide +kernel
theorem dX2_cutOff_6 : decode cX2_cutOff 6 = .ok (.istore_n 3, 1) := by decide +kernel
theorem dX2_cutOff_7 : decode cX2_cutOff 7 = .ok (.aload_n 0, 1) := by decide +kernel
theorem dX2_cutOff_8 : decode cX2_cutOff 8 = .ok (.getfield 30, 3) := by decide +kernel
theorem dX2_cutOff_11 : decode cX2_cutOff 11 = .ok (.iconst 1, 1) := by decide +kernel
theorem dX2_cutOff_12 : decode cX2_cutOff 12 = .ok (.isub, 1) := by decide +kernel
theorem dX2_cutOff_13 : decode cX2_cutOff 13 = .ok (.istore 4, 2) := by decide +kernel
theorem dX2_cutOff_15 : decode cX2_cutOff 15 = .ok (.aload_n 0, 1) := by decide +kernel
theorem dX2_cutOff_16 : decode cX2_cutOff 16 = .ok (.iload 4, 2) := by decide +kernel
theorem dX2_cutOff_18 : decode cX2_cutOff 18 = .ok (.invokevirtual 34, 3) := by decide +kernel
theorem dX2_cutOff_21 : decode cX2_cutOff 21 = .ok (.ifCond .eq 62, 3) := by decide +kernel
theorem dX2_cutOff_24 : decode cX2_cutOff 24 = .ok (.iload_n 3, 1) := by decide +kernel
theorem dX2_cutOff_25 : decode cX2_cutOff 25 = .ok (.ifCond .le 58, 3) := by decide +kernel
theorem dX2_cutOff_28 : decode cX2_cutOff 28 = .ok (.iload_n 3, 1) := by decide +kernel
theorem dX2_cutOff_29 : decode cX2_cutOff 29 = .ok (.aload_n 0, 1) := by decide +kernel
theorem dX2_cutOff_30 : decode cX2_cutOff 30 = .ok (.iload 4, 2) := by decide +kernel
theorem dX2_cutOff_32 : decode cX2_cutOff 32 = .ok (.invokevirtual 38, 3) := by decide +kernel
theorem dX2_cutOff_35 : decode cX2_cutOff 35 = .ok (.invokestatic 70, 3) := by decide +kernel
theorem dX2_cutOff_38 : decode cX2_cutOff 38 = .ok (.istore 5, 2) := by decide +kernel
theorem dX2_cutOff_40 : decode cX2_cutOff 40 = .ok (.iload_n 3, 1) := by decide +kernel
theorem dX2_cutOff_41 : decode cX2_cutOff 41 = .ok (.iload 5, 2) := by decide +kernel
theorem dX2_cutOff_43 : decode cX2_cutOff 43 = .ok (.isub, 1) := by decide +kernel
theorem dX2_cutOff_44 : decode cX2_cutOff 44 = .ok (.istore_n 3, 1) := by decide +kernel
theorem dX2_cutOff_45 : decode cX2_cutOff 45 = .ok (.aload_n 0, 1) := by decide +kernel
theorem dX2_cutOff_46 : decode cX2_cutOff 46 = .ok (.getfield 21, 3) := by decide +kernel
theorem dX2_cutOff_49 : decode cX2_cutOff 49 = .ok (.iload 4, 2) := by decide +kernel
theorem dX2_cutOff_51 : decode cX2_cutOff 51 = .ok (.dup2, 1) := by decide +kernel
theorem dX2_cutOff_52 : decode cX2_cutOff 52 = .ok (.iaload, 1) := by decide +kernel
theorem dX2_cutOff_53 : decode cX2_cutOff 53 = .ok (.iload 5, 2) := by decide +kernel
theorem dX2_cutOff_55 : decode cX2_cutOff 55 = .ok (.isub, 1) := by decide +kernel
theorem dX2_cutOff_56 : decode cX2_cutOff 56 = .ok (.iastore, 1) := by decide +kernel
theorem dX2_cutOff_57 : decode cX2_cutOff 57 = .ok (.aload_n 0, 1) := by decide +kernel
theorem dX2_cutOff_58 : decode cX2_cutOff 58 = .ok (.getfield 21, 3) := by decide +kernel
theorem dX2_cutOff_61 : decode cX2_cutOff 61 = .ok (.iload 4, 2) := by decide +kernel
theorem dX2_cutOff_63 : decode cX2_cutOff 63 = .ok (.iaload, 1) := by decide +kernel
theorem dX2_cutOff_64 : decode cX2_cutOff 64 = .ok (.ifCond .ne 13, 3) := by decide +kernel
theorem dX2_cutOff_67 : decode cX2_cutOff 67 = .ok (.aload_n 0, 1) := by decide +kernel
theorem dX2_cutOff_68 : decode cX2_cutOff 68 = .ok (.dup, 1) := by decide +kernel
theorem dX2_cutOff_69 : decode cX2_cutOff 69 = .ok (.getfield 30, 3) := by decide +kernel
theorem dX2_cutOff_72 : decode cX2_cutOff 72 = .ok (.iconst 1, 1) := by decide +kernel
theorem dX2_cutOff_73 : decode cX2_cutOff 73 = .ok (.isub, 1) := by decide +kernel
theorem dX2_cutOff_74 : decode cX2_cutOff 74 = .ok (.putfield 30, 3) := by decide +kernel
theorem dX2_cutOff_77 : decode cX2_cutOff 77 = .ok (.iinc 4 (-1), 3) := by decide +kernel
theorem dX2_cutOff_80 : decode cX2_cutOff 80 = .ok (.goto (-65), 3) := by decide +kernel
theorem dX2_cutOff_83 : decode cX2_cutOff 83 = .ok (.iload_n 2, 1) := by decide +kernel
theorem dX2_cutOff_84 : decode cX2_cutOff 84 = .ok (.aload_n 0, 1) := by decide +kernel
theorem dX2_cutOff_85 : decode cX2_cutOff 85 = .ok (.getfield 30, 3) := by decide +kernel
theorem dX2_cutOff_88 : decode cX2_cutOff 88 = .ok (.isub, 1) := by decide +kernel
theorem dX2_cutOff_89 : decode cX2_cutOff 89 = .ok (.ireturn, 1) := by decide +kernel
theorem dX2_takeLayers_0 : decode cX2_takeLayers 0 = .ok (.aload_n 0, 1) := by decide +kernel
theorem dX2_takeLayers_1 : decode cX2_takeLayers 1 = .ok (.aload_n 1, 1) := by decide +kernel
theorem dX2_takeLayers_2 : decode cX2_takeLayers 2 = .ok (.getfield 30, 3) := by decide +kernel
theorem dX2_takeLayers_5 : decode cX2_takeLayers 5 = .ok (.putfield 30, 3) := by decide +kernel
theorem dX2_takeLayers_8 : decode cX2_takeLayers 8 = .ok (.iconst 0, 1) := by decide +kernel
theorem dX2_takeLayers_9 : decode cX2_takeLayers 9 = .ok (.istore_n 2, 1) := by decide +kernel
theorem dX2_takeLayers_10 : decode cX2_takeLayers 10 = .ok (.iload_n 2, 1) := by decide +kernel
theorem dX2_takeLayers_11 : decode cX2_takeLayers 11 = .ok (.aload_n 0, 1) := by decide +kernel
theorem dX2_takeLayers_12 : decode cX2_takeLayers 12 = .ok (.getfield 30, 3) := by decide +kernel
theorem dX2_takeLayers_15 : decode cX2_takeLayers 15 = .ok (.if_icmp .ge 87, 3) := by decide +kernel
theorem dX2_takeLayers_18 : decode cX2_takeLayers 18 = .ok (.iload_n 2, 1) := by decide +kernel
theorem dX2_takeLayers_19 : decode cX2_takeLayers 19 = .ok (.bipush 8, 2) := by decide +kernel
theorem dX2_takeLayers_21 : decode cX2_takeLayers 21 = .ok (.if_icmp .ge 81, 3) := by decide +kernel
theorem dX2_takeLayers_24 : decode cX2_takeLayers 24 = .ok (.aload_n 0, 1) := by decide +kernel
theorem dX2_takeLayers_25 : decode cX2_takeLayers 25 = .ok (.getfield 9, 3) := by decide +kernel
theorem dX2_takeLayers_28 : decode cX2_takeLayers 28 = .ok (.iload_n 2, 1) := by decide +kernel
theorem dX2_takeLayers_29 : decode cX2_takeLayers 29 = .ok (.aload_n 1, 1) := by decide +kernel
theorem dX2_takeLayers_30 : decode cX2_takeLayers 30 = .ok (.getfield 9, 3) := by decide +kernel
theorem dX2_takeLayers_33 : decode cX2_takeLayers 33 = .ok (.iload_n 2, 1) := by decide +kernel
theorem dX2_takeLayers_34 : decode cX2_takeLayers 34 = .ok (.iaload, 1) := by decide +kernel
theorem dX2_takeLayers_35 : decode cX2_takeLayers 35 = .ok (.iastore, 1) := by decide +kernel
theorem dX2_takeLayers_36 : decode cX2_takeLayers 36 = .ok (.aload_n 0, 1) := by decide +kernel
theorem dX2_takeLayers_37 : decode cX2_takeLayers 37 = .ok (.getfield 15, 3) := by decide +kernel
theorem dX2_takeLayers_40 : decode cX2_takeLayers 40 = .ok (.iload_n 2, 1) := by decide +kernel
theorem dX2_takeLayers_41 : decode cX2_takeLayers 41 = .ok (.aload_n 1, 1) := by decide +kernel
theorem dX2_takeLayers_42 : decode cX2_takeLayers 42 = .ok (.getfield 15, 3) := by decide +kernel
theorem dX2_takeLayers_45 : decode cX2_takeLayers 45 = .ok (.iload_n 2, 1) := by decide +kernel
theorem dX2_takeLayers_46 : decode cX2_takeLayers 46 = .ok (.iaload, 1) := by decide +kernel
theorem dX2_takeLayers_47 : decode cX2_takeLayers 47 = .ok (.iastore, 1) := by decide +kernel
theorem dX2_takeLayers_48 : decode cX2_takeLayers 48 = .ok (.aload_n 0, 1) := by decide +kernel
theorem dX2_takeLayers_49 : decode cX2_takeLayers 49 = .ok (.getfield 18, 3) := by decide +kernel
theorem dX2_takeLayers_52 : decode cX2_takeLayers 52 = .ok (.iload_n 2, 1) := by decide +kernel
theorem dX2_takeLayers_53 : decode cX2_takeLayers 53 = .ok (.aload_n 1, 1) := by decide +kernel
theorem dX2_takeLayers_54 : decode cX2_takeLayers 54 = .ok (.getfield 18, 3) := by decide +kernel
theorem dX2_takeLayers_57 : decode cX2_takeLayers 57 = .ok (.iload_n 2, 1) := by decide +kernel
theorem dX2_takeLayers_58 : decode cX2_takeLayers 58 = .ok (.iaload, 1) := by decide +kernel
theorem dX2_takeLayers_59 : decode cX2_takeLayers 59 = .ok (.iastore, 1) := by decide +kernel
theorem dX2_takeLayers_60 : decode cX2_takeLayers 60 = .ok (.aload_n 0, 1) := by decide +kernel
theorem dX2_takeLayers_61 : decode cX2_takeLayers 61 = .ok (.getfield 21, 3) := by decide +kernel
theorem dX2_takeLayers_64 : decode cX2_takeLayers 64 = .ok (.iload_n 2, 1) := by decide +kernel
theorem dX2_takeLayers_65 : decode cX2_takeLayers 65 = .ok (.aload_n 1, 1) := by decide +kernel
theorem dX2_takeLayers_66 : decode cX2_takeLayers 66 = .ok (.getfield 21, 3) := by decide +kernel
theorem dX2_takeLayers_69 : decode cX2_takeLayers 69 = .ok (.iload_n 2, 1) := by decide +kernel
theorem dX2_takeLayers_70 : decode cX2_takeLayers 70 = .ok (.iaload, 1) := by decide +kernel
theorem dX2_takeLayers_71 : decode cX2_takeLayers 71 = .ok (.iastore, 1) := by decide +kernel
theorem dX2_takeLayers_72 : decode cX2_takeLayers 72 = .ok (.aload_n 0, 1) := by decide +kernel
theorem dX2_takeLayers_73 : decode cX2_takeLayers 73 = .ok (.getfield 24, 3) := by decide +kernel
theorem dX2_takeLayers_76 : decode cX2_takeLayers 76 = .ok (.iload_n 2, 1) := by decide +kernel
theorem dX2_takeLayers_77 : decode cX2_takeLayers 77 = .ok (.aload_n 1, 1) := by decide +kernel
theorem dX2_takeLayers_78 : decode cX2_takeLayers 78 = .ok (.getfield 24, 3) := by decide +kernel
theorem dX2_takeLayers_81 : decode cX2_takeLayers 81 = .ok (.iload_n 2, 1) := by decide +kernel
theorem dX2_takeLayers_82 : decode cX2_takeLayers 82 = .ok (.iaload, 1) := by decide +kernel
theorem dX2_takeLayers_83 : decode cX2_takeLayers 83 = .ok (.iastore, 1) := by decide +kernel
theorem dX2_takeLayers_84 : decode cX2_takeLayers 84 = .ok (.aload_n 0, 1) := by decide +kernel
theorem dX2_takeLayers_85 : decode cX2_takeLayers 85 = .ok (.getfield 27, 3) := by decide +kernel
theorem dX2_takeLayers_88 : decode cX2_takeLayers 88 = .ok (.iload_n 2, 1) := by decide +kernel
theorem dX2_takeLayers_89 : decode cX2_takeLayers 89 = .ok (.aload_n 1, 1) := by decide +kernel
theorem dX2_takeLayers_90 : decode cX2_takeLayers 90 = .ok (.getfield 27, 3) := by decide +kernel
theorem dX2_takeLayers_93 : decode cX2_takeLayers 93 = .ok (.iload_n 2, 1) := by decide +kernel
theorem dX2_takeLayers_94 : decode cX2_takeLayers 94 = .ok (.iaload, 1) := by decide +kernel
theorem dX2_takeLayers_95 : decode cX2_takeLayers 95 = .ok (.iastore, 1) := by decide +kernel
theorem dX2_takeLayers_96 : decode cX2_takeLayers 96 = .ok (.iinc 2 1, 3) := by decide +kernel
theorem dX2_takeLayers_99 : decode cX2_takeLayers 99 = .ok (.goto (-89), 3) := by decide +kernel
theorem dX2_takeLayers_102 : decode cX2_takeLayers 102 = .ok (.return_, 1) := by decide +kernel
set_option maxRecDepth 20000 in
theorem ggX2_topmostRead_X2_canRead : GoodIn wsX2_topmostRead wsX2_canRead := goodIn_r _ [6, 7, 8, 9, 5, 10, 1, 11, 12, 13, 14, 15, 16, 17, 18, 19, 20, 21, 22, 23, 24, 30, 31, 32, 33, 34, 35, 36] (by decide +kernel) (by decide +kernel)
set_option maxRecDepth 20000 in
theorem gX2_topmostRead_X2_canRead : GoodIn wsX2_topmostRead (wsV RX2 54 RX2 yX2_canRead wsX2_canRead) := goodIn_app (goodIn_of _ (by decide +kernel)) ggX2_topmostRead_X2_canRead
set_option maxRecDepth 20000 in
theorem ggX2_topmostRead_X2_oathAt : GoodIn wsX2_topmostRead wsX2_oathAt := goodIn_r _ [28, 29, 7, 8, 9, 5, 10, 1, 30, 31, 32, 33, 34, 35, 36] (by decide +kernel) (by decide +kernel)
set_option maxRecDepth 20000 in
theorem gX2_topmostRead_X2_oathAt : GoodIn wsX2_topmostRead (wsV RX2 48 RX2 yX2_oathAt wsX2_oathAt) := goodIn_app (goodIn_of _ (by decide +kernel)) ggX2_topmostRead_X2_oathAt
theorem dX2_topmostRead_0 : decode cX2_topmostRead 0 = .ok (.aload_n 0, 1) := by decide +kernel
theorem dX2_topmostRead_1 : decode cX2_topmostRead 1 = .ok (.getfield 30, 3) := by decide +kernel
theorem dX2_topmostRead_4 : decode cX2_topmostRead 4 = .ok (.iconst 1, 1) := by decide +kernel
theorem dX2_topmostRead_5 : decode cX2_topmostRead 5 = .ok (.isub, 1) := by decide +kernel
theorem dX2_topmostRead_6 : decode cX2_topmostRead 6 = .ok (.istore_n 1, 1) := by decide +kernel
theorem dX2_topmostRead_7 : decode cX2_topmostRead 7 = .ok (.iload_n 1, 1) := by decide +kernel
theorem dX2_topmostRead_8 : decode cX2_topmostRead 8 = .ok (.ifCond .lt 23, 3) := by decide +kernel
theorem dX2_topmostRead_11 : decode cX2_topmostRead 11 = .ok (.aload_n 0, 1) := by decide +kernel
theorem dX2_topmostRead_12 : decode cX2_topmostRead 12 = .ok (.iload_n 1, 1) := by decide +kernel
theorem dX2_topmostRead_13 : decode cX2_topmostRead 13 = .ok (.invokevirtual 54, 3) := by decide +kernel
theorem dX2_topmostRead_16 : decode cX2_topmostRead 16 = .ok (.ifCond .eq 9, 3) := by decide +kernel
theorem dX2_topmostRead_19 : decode cX2_topmostRead 19 = .ok (.aload_n 0, 1) := by decide +kernel
theorem dX2_topmostRead_20 : decode cX2_topmostRead 20 = .ok (.iload_n 1, 1) := by decide +kernel
theorem dX2_topmostRead_21 : decode cX2_topmostRead 21 = .ok (.invokevirtual 48, 3) := by decide +kernel
theorem dX2_topmostRead_24 : decode cX2_topmostRead 24 = .ok (.ireturn, 1) := by decide +kernel
theorem dX2_topmostRead_25 : decode cX2_topmostRead 25 = .ok (.iinc 1 (-1), 3) := by decide +kernel
theorem dX2_topmostRead_28 : decode cX2_topmostRead 28 = .ok (.goto (-21), 3) := by decide +kernel
theorem dX2_topmostRead_31 : decode cX2_topmostRead 31 = .ok (.bipush (-4), 2) := by decide +kernel
theorem dX2_topmostRead_33 : decode cX2_topmostRead 33 = .ok (.ireturn, 1) := by decide +kernel
set_option maxRecDepth 20000 in
theorem ggX2_oathsSeen_X2_thickAt : GoodIn wsX2_oathsSeen wsX2_thickAt := goodIn_r _ [10, 11, 12, 13, 14, 9, 15, 1, 26, 27, 28, 29, 30, 31, 32] (by decide +kernel) (by decide +kernel)
set_option maxRecDepth 20000 in
theorem gX2_oathsSeen_X2_thickAt : GoodIn wsX2_oathsSeen (wsV RX2 38 RX2 yX2_thickAt wsX2_thickAt) := goodIn_app (goodIn_of _ (by decide +kernel)) ggX2_oathsSeen_X2_thickAt
set_option maxRecDepth 20000 in
theorem ggX2_oathsSeen_X2_lightAt : GoodIn wsX2_oathsSeen wsX2_lightAt := goodIn_r _ [19, 20, 12, 13, 14, 9, 15, 1, 26, 27, 28, 29, 30, 31, 32] (by decide +kernel) (by decide +kernel)
set_option maxRecDepth 20000 in
theorem gX2_oathsSeen_X2_lightAt : GoodIn wsX2_oathsSeen (wsV RX2 45 RX2 yX2_lightAt wsX2_lightAt) := goodIn_app (goodIn_of _ (by decide +kernel)) ggX2_oathsSeen_X2_lightAt
set_option maxRecDepth 20000 in
theorem ggX2_oathsSeen_X2_oathAt : GoodIn wsX2_oathsSeen wsX2_oathAt := goodIn_r _ [24, 25, 12, 13, 14, 9, 15, 1, 26, 27, 28, 29, 30, 31, 32] (by decide +kernel) (by decide +kernel)
set_option maxRecDepth 20000 in
theorem gX2_oathsSeen_X2_oathAt : GoodIn wsX2_oathsSeen (wsV RX2 48 RX2 yX2_oathAt wsX2_oathAt) := goodIn_app (goodIn_of _ (by decide +kernel)) ggX2_oathsSeen_X2_oathAt
theorem dX2_oathsSeen_0 : decode cX2_oathsSeen 0 = .ok (.iconst 0, 1) := by decide +kernel
theorem dX2_oathsSeen_1 : decode cX2_oathsSeen 1 = .ok (.istore_n 2, 1) := by decide +kernel
theorem dX2_oathsSeen_2 : decode cX2_oathsSeen 2 = .ok (.iload_n 1, 1) := by decide +kernel
theorem dX2_oathsSeen_3 : decode cX2_oathsSeen 3 = .ok (.ineg, 1) := by decide +kernel
theorem dX2_oathsSeen_4 : decode cX2_oathsSeen 4 = .ok (.istore_n 3, 1) := by decide +kernel
theorem dX2_oathsSeen_5 : decode cX2_oathsSeen 5 = .ok (.aload_n 0, 1) := by decide +kernel
theorem dX2_oathsSeen_6 : decode cX2_oathsSeen 6 = .ok (.getfield 30, 3) := by decide +kernel
theorem dX2_oathsSeen_9 : decode cX2_oathsSeen 9 = .ok (.iconst 1, 1) := by decide +kernel
theorem dX2_oathsSeen_10 : decode cX2_oathsSeen 10 = .ok (.isub, 1) := by decide +kernel
theorem dX2_oathsSeen_11 : decode cX2_oathsSeen 11 = .ok (.istore 4, 2) := by decide +kernel
theorem dX2_oathsSeen_13 : decode cX2_oathsSeen 13 = .ok (.iload 4, 2) := by decide +kernel
theorem dX2_oathsSeen_15 : decode cX2_oathsSeen 15 = .ok (.ifCond .lt 66, 3) := by decide +kernel
theorem dX2_oathsSeen_18 : decode cX2_oathsSeen 18 = .ok (.iload_n 3, 1) := by decide +kernel
theorem dX2_oathsSeen_19 : decode cX2_oathsSeen 19 = .ok (.aload_n 0, 1) := by decide +kernel
theorem dX2_oathsSeen_20 : decode cX2_oathsSeen 20 = .ok (.iload 4, 2) := by decide +kernel
theorem dX2_oathsSeen_22 : decode cX2_oathsSeen 22 = .ok (.invokevirtual 38, 3) := by decide +kernel
theorem dX2_oathsSeen_25 : decode cX2_oathsSeen 25 = .ok (.iadd, 1) := by decide +kernel
theorem dX2_oathsSeen_26 : decode cX2_oathsSeen 26 = .ok (.ifCond .le 7, 3) := by decide +kernel
theorem dX2_oathsSeen_29 : decode cX2_oathsSeen 29 = .ok (.iconst 1, 1) := by decide +kernel
theorem dX2_oathsSeen_30 : decode cX2_oathsSeen 30 = .ok (.goto 4, 3) := by decide +kernel
theorem dX2_oathsSeen_33 : decode cX2_oathsSeen 33 = .ok (.iconst 0, 1) := by decide +kernel
theorem dX2_oathsSeen_34 : decode cX2_oathsSeen 34 = .ok (.istore 5, 2) := by decide +kernel
theorem dX2_oathsSeen_36 : decode cX2_oathsSeen 36 = .ok (.iload 5, 2) := by decide +kernel
theorem dX2_oathsSeen_38 : decode cX2_oathsSeen 38 = .ok (.ifCond .eq 28, 3) := by decide +kernel
theorem dX2_oathsSeen_41 : decode cX2_oathsSeen 41 = .ok (.iconst 0, 1) := by decide +kernel
theorem dX2_oathsSeen_42 : decode cX2_oathsSeen 42 = .ok (.iload_n 3, 1) := by decide +kernel
theorem dX2_oathsSeen_43 : decode cX2_oathsSeen 43 = .ok (.invokestatic 78, 3) := by decide +kernel
theorem dX2_oathsSeen_46 : decode cX2_oathsSeen 46 = .ok (.aload_n 0, 1) := by decide +kernel
theorem dX2_oathsSeen_47 : decode cX2_oathsSeen 47 = .ok (.iload 4, 2) := by decide +kernel
theorem dX2_oathsSeen_49 : decode cX2_oathsSeen 49 = .ok (.invokevirtual 45, 3) := by decide +kernel
theorem dX2_oathsSeen_52 : decode cX2_oathsSeen 52 = .ok (.if_icmp .gt 14, 3) := by decide +kernel
theorem dX2_oathsSeen_55 : decode cX2_oathsSeen 55 = .ok (.iload_n 2, 1) := by decide +kernel
theorem dX2_oathsSeen_56 : decode cX2_oathsSeen 56 = .ok (.iconst 1, 1) := by decide +kernel
theorem dX2_oathsSeen_57 : decode cX2_oathsSeen 57 = .ok (.aload_n 0, 1) := by decide +kernel
theorem dX2_oathsSeen_58 : decode cX2_oathsSeen 58 = .ok (.iload 4, 2) := by decide +kernel
theorem dX2_oathsSeen_60 : decode cX2_oathsSeen 60 = .ok (.invokevirtual 48, 3) := by decide +kernel
theorem dX2_oathsSeen_63 : decode cX2_oathsSeen 63 = .ok (.ishl, 1) := by decide +kernel
theorem dX2_oathsSeen_64 : decode cX2_oathsSeen 64 = .ok (.ior, 1) := by decide +kernel
theorem dX2_oathsSeen_65 : decode cX2_oathsSeen 65 = .ok (.istore_n 2, 1) := by decide +kernel
theorem dX2_oathsSeen_66 : decode cX2_oathsSeen 66 = .ok (.iload_n 3, 1) := by decide +kernel
theorem dX2_oathsSeen_67 : decode cX2_oathsSeen 67 = .ok (.aload_n 0, 1) := by decide +kernel
theorem dX2_oathsSeen_68 : decode cX2_oathsSeen 68 = .ok (.iload 4, 2) := by decide +kernel
theorem dX2_oathsSeen_70 : decode cX2_oathsSeen 70 = .ok (.invokevirtual 38, 3) := by decide +kernel
theorem dX2_oathsSeen_73 : decode cX2_oathsSeen 73 = .ok (.iadd, 1) := by decide +kernel
theorem dX2_oathsSeen_74 : decode cX2_oathsSeen 74 = .ok (.istore_n 3, 1) := by decide +kernel
theorem dX2_oathsSeen_75 : decode cX2_oathsSeen 75 = .ok (.iinc 4 (-1), 3) := by decide +kernel
theorem dX2_oathsSeen_78 : decode cX2_oathsSeen 78 = .ok (.goto (-65), 3) := by decide +kernel
theorem dX2_oathsSeen_81 : decode cX2_oathsSeen 81 = .ok (.iload_n 2, 1) := by decide +kernel
theorem dX2_oathsSeen_82 : decode cX2_oathsSeen 82 = .ok (.ireturn, 1) := by decide +kernel
set_option maxRecDepth 20000 in
theorem ggX2_daysOf_X2_meltsAt : GoodIn wsX2_daysOf wsX2_meltsAt := goodIn_r _ [10, 11, 12, 13, 14, 9, 15, 1, 21, 22, 23, 24, 25, 26, 27] (by decide +kernel) (by decide +kernel)
set_option maxRecDepth 20000 in
theorem gX2_daysOf_X2_meltsAt : GoodIn wsX2_daysOf (wsV RX2 67 RX2 yX2_meltsAt wsX2_meltsAt) := goodIn_app (goodIn_of _ (by decide +kernel)) ggX2_daysOf_X2_meltsAt
set_option maxRecDepth 20000 in
theorem ggX2_daysOf_X2_thickAt : GoodIn wsX2_daysOf wsX2_thickAt := goodIn_r _ [19, 20, 12, 13, 14, 9, 15, 1, 21, 22, 23, 24, 25, 26, 27] (by decide +kernel) (by decide +kernel)
set_option maxRecDepth 20000 in
theorem gX2_daysOf_X2_thickAt : GoodIn wsX2_daysOf (wsV RX2 38 RX2 yX2_thickAt wsX2_thickAt) := goodIn_app (goodIn_of _ (by decide +kernel)) ggX2_daysOf_X2_thickAt
theorem dX2_daysOf_0 : decode cX2_daysOf 0 = .ok (.iconst 0, 1) := by decide +kernel
theorem dX2_daysOf_1 : decode cX2_daysOf 1 = .ok (.istore_n 2, 1) := by decide +kernel
theorem dX2_daysOf_2 : decode cX2_daysOf 2 = .ok (.aload_n 0, 1) := by decide +kernel
theorem dX2_daysOf_3 : decode cX2_daysOf 3 = .ok (.getfield 30, 3) := by decide +kernel
theorem dX2_daysOf_6 : decode cX2_daysOf 6 = .ok (.iconst 1, 1) := by decide +kernel
theorem dX2_daysOf_7 : decode cX2_daysOf 7 = .ok (.isub, 1) := by decide +kernel
theorem dX2_daysOf_8 : decode cX2_daysOf 8 = .ok (.istore_n 3, 1) := by decide +kernel
theorem dX2_daysOf_9 : decode cX2_daysOf 9 = .ok (.iload_n 3, 1) := by decide +kernel
theorem dX2_daysOf_10 : decode cX2_daysOf 10 = .ok (.iload_n 1, 1) := by decide +kernel
theorem dX2_daysOf_11 : decode cX2_daysOf 11 = .ok (.if_icmp .lt 36, 3) := by decide +kernel
theorem dX2_daysOf_14 : decode cX2_daysOf 14 = .ok (.iconst 1, 1) := by decide +kernel
theorem dX2_daysOf_15 : decode cX2_daysOf 15 = .ok (.aload_n 0, 1) := by decide +kernel
theorem dX2_daysOf_16 : decode cX2_daysOf 16 = .ok (.iload_n 3, 1) := by decide +kernel
theorem dX2_daysOf_17 : decode cX2_daysOf 17 = .ok (.invokevirtual 67, 3) := by decide +kernel
theorem dX2_daysOf_20 : decode cX2_daysOf 20 = .ok (.invokestatic 78, 3) := by decide +kernel
theorem dX2_daysOf_23 : decode cX2_daysOf 23 = .ok (.istore 4, 2) := by decide +kernel
theorem dX2_daysOf_25 : decode cX2_daysOf 25 = .ok (.iload_n 2, 1) := by decide +kernel
theorem dX2_daysOf_26 : decode cX2_daysOf 26 = .ok (.aload_n 0, 1) := by decide +kernel
theorem dX2_daysOf_27 : decode cX2_daysOf 27 = .ok (.iload_n 3, 1) := by decide +kernel
theorem dX2_daysOf_28 : decode cX2_daysOf 28 = .ok (.invokevirtual 38, 3) := by decide +kernel
theorem dX2_daysOf_31 : decode cX2_daysOf 31 = .ok (.iload 4, 2) := by decide +kernel
theorem dX2_daysOf_33 : decode cX2_daysOf 33 = .ok (.iadd, 1) := by decide +kernel
theorem dX2_daysOf_34 : decode cX2_daysOf 34 = .ok (.iconst 1, 1) := by decide +kernel
theorem dX2_daysOf_35 : decode cX2_daysOf 35 = .ok (.isub, 1) := by decide +kernel
theorem dX2_daysOf_36 : decode cX2_daysOf 36 = .ok (.iload 4, 2) := by decide +kernel
theorem dX2_daysOf_38 : decode cX2_daysOf 38 = .ok (.idiv, 1) := by decide +kernel
theorem dX2_daysOf_39 : decode cX2_daysOf 39 = .ok (.iadd, 1) := by decide +kernel
theorem dX2_daysOf_40 : decode cX2_daysOf 40 = .ok (.istore_n 2, 1) := by decide +kernel
theorem dX2_daysOf_41 : decode cX2_daysOf 41 = .ok (.iinc 3 (-1), 3) := by decide +kernel
theorem dX2_daysOf_44 : decode cX2_daysOf 44 = .ok (.goto (-35), 3) := by decide +kernel
theorem dX2_daysOf_47 : decode cX2_daysOf 47 = .ok (.iload_n 2, 1) := by decide +kernel
theorem dX2_daysOf_48 : decode cX2_daysOf 48 = .ok (.ireturn, 1) := by decide +kernel
set_option maxRecDepth 20000 in
theorem ggX2_keepsOath_X2_oathAt : GoodIn wsX2_keepsOath wsX2_oathAt := goodIn_r _ [6, 7, 8, 9, 10, 5, 11, 1, 30, 31, 32, 33, 34, 35, 36] (by decide +kernel) (by decide +kernel)
set_option maxRecDepth 20000 in
theorem gX2_keepsOath_X2_oathAt : GoodIn wsX2_keepsOath (wsV RX2 48 RX2 yX2_oathAt wsX2_oathAt) := goodIn_app (goodIn_of _ (by decide +kernel)) ggX2_keepsOath_X2_oathAt
set_option maxRecDepth 20000 in
theorem ggX2_keepsOath_X2_daysOf : GoodIn wsX2_keepsOath wsX2_daysOf := goodIn_r _ [15, 1, 16, 17, 18, 19, 20, 21, 22, 5, 23, 24, 8, 9, 10, 11, 25, 26, 27, 28, 29, 30, 31, 32, 33, 34, 35, 36] (by decide +kernel) (by decide +kernel)
set_option maxRecDepth 20000 in
theorem gX2_keepsOath_X2_daysOf : GoodIn wsX2_keepsOath (wsV RX2 81 RX2 yX2_daysOf wsX2_daysOf) := goodIn_app (goodIn_of _ (by decide +kernel)) ggX2_keepsOath_X2_daysOf
theorem dX2_keepsOath_0 : decode cX2_keepsOath 0 = .ok (.iconst 0, 1) := by decide +kernel
theorem dX2_keepsOath_1 : decode cX2_keepsOath 1 = .ok (.istore_n 3, 1) := by decide +kernel
theorem dX2_keepsOath_2 : decode cX2_keepsOath 2 = .ok (.iload_n 3, 1) := by decide +kernel
theorem dX2_keepsOath_3 : decode cX2_keepsOath 3 = .ok (.aload_n 0, 1) := by decide +kernel
theorem dX2_keepsOath_4 : decode cX2_keepsOath 4 = .ok (.getfield 30, 3) := by decide +kernel
theorem dX2_keepsOath_7 : decode cX2_keepsOath 7 = .ok (.if_icmp .ge 29, 3) := by decide +kernel
theorem dX2_keepsOath_10 : decode cX2_keepsOath 10 = .ok (.aload_n 0, 1) := by decide +kernel
theorem dX2_keepsOath_11 : decode cX2_keepsOath 11 = .ok (.iload_n 3, 1) := by decide +kernel
theorem dX2_keepsOath_12 : decode cX2_keepsOath 12 = .ok (.invokevirtual 48, 3) := by decide +kernel
theorem dX2_keepsOath_15 : decode cX2_keepsOath 15 = .ok (.iload_n 1, 1) := by decide +kernel
theorem dX2_keepsOath_16 : decode cX2_keepsOath 16 = .ok (.if_icmp .ne 14, 3) := by decide +kernel
theorem dX2_keepsOath_19 : decode cX2_keepsOath 19 = .ok (.aload_n 0, 1) := by decide +kernel
theorem dX2_keepsOath_20 : decode cX2_keepsOath 20 = .ok (.iload_n 3, 1) := by decide +kernel
theorem dX2_keepsOath_21 : decode cX2_keepsOath 21 = .ok (.invokevirtual 81, 3) := by decide +kernel
theorem dX2_keepsOath_24 : decode cX2_keepsOath 24 = .ok (.iload_n 2, 1) := by decide +kernel
theorem dX2_keepsOath_25 : decode cX2_keepsOath 25 = .ok (.if_icmp .le 5, 3) := by decide +kernel
theorem dX2_keepsOath_28 : decode cX2_keepsOath 28 = .ok (.iconst 1, 1) := by decide +kernel
theorem dX2_keepsOath_29 : decode cX2_keepsOath 29 = .ok (.ireturn, 1) := by decide +kernel
theorem dX2_keepsOath_30 : decode cX2_keepsOath 30 = .ok (.iinc 3 1, 3) := by decide +kernel
theorem dX2_keepsOath_33 : decode cX2_keepsOath 33 = .ok (.goto (-31), 3) := by decide +kernel
theorem dX2_keepsOath_36 : decode cX2_keepsOath 36 = .ok (.iconst 0, 1) := by decide +kernel
theorem dX2_keepsOath_37 : decode cX2_keepsOath 37 = .ok (.ireturn, 1) := by decide +kernel
set_option maxRecDepth 20000 in
theorem ggX2_layerBehind_X2_thickAt : GoodIn wsX2_layerBehind wsX2_thickAt := goodIn_r _ [6, 7, 8, 9, 10, 5, 11, 1, 12, 13, 14, 15, 16, 17, 18] (by decide +kernel) (by decide +kernel)
set_option maxRecDepth 20000 in
theorem gX2_layerBehind_X2_thickAt : GoodIn wsX2_layerBehind (wsV RX2 38 RX2 yX2_thickAt wsX2_thickAt) := goodIn_app (goodIn_of _ (by decide +kernel)) ggX2_layerBehind_X2_thickAt
theorem dX2_layerBehind_0 : decode cX2_layerBehind 0 = .ok (.iload_n 1, 1) := by decide +kernel
theorem dX2_layerBehind_1 : decode cX2_layerBehind 1 = .ok (.istore_n 2, 1) := by decide +kernel
theorem dX2_layerBehind_2 : decode cX2_layerBehind 2 = .ok (.aload_n 0, 1) := by decide +kernel
theorem dX2_layerBehind_3 : decode cX2_layerBehind 3 = .ok (.getfield 30, 3) := by decide +kernel
theorem dX2_layerBehind_6 : decode cX2_layerBehind 6 = .ok (.iconst 1, 1) := by decide +kernel
theorem dX2_layerBehind_7 : decode cX2_layerBehind 7 = .ok (.isub, 1) := by decide +kernel
theorem dX2_layerBehind_8 : decode cX2_layerBehind 8 = .ok (.istore_n 3, 1) := by decide +kernel
theorem dX2_layerBehind_9 : decode cX2_layerBehind 9 = .ok (.iload_n 3, 1) := by decide +kernel
theorem dX2_layerBehind_10 : decode cX2_layerBehind 10 = .ok (.ifCond .lt 28, 3) := by decide +kernel
theorem dX2_layerBehind_13 : decode cX2_layerBehind 13 = .ok (.iload_n 2, 1) := by decide +kernel
theorem dX2_layerBehind_14 : decode cX2_layerBehind 14 = .ok (.aload_n 0, 1) := by decide +kernel
theorem dX2_layerBehind_15 : decode cX2_layerBehind 15 = .ok (.iload_n 3, 1) := by decide +kernel
theorem dX2_layerBehind_16 : decode cX2_layerBehind 16 = .ok (.invokevirtual 38, 3) := by decide +kernel
theorem dX2_layerBehind_19 : decode cX2_layerBehind 19 = .ok (.if_icmp .ge 5, 3) := by decide +kernel
theorem dX2_layerBehind_22 : decode cX2_layerBehind 22 = .ok (.iload_n 3, 1) := by decide +kernel
theorem dX2_layerBehind_23 : decode cX2_layerBehind 23 = .ok (.ireturn, 1) := by decide +kernel
theorem dX2_layerBehind_24 : decode cX2_layerBehind 24 = .ok (.iload_n 2, 1) := by decide +kernel
theorem dX2_layerBehind_25 : decode cX2_layerBehind 25 = .ok (.aload_n 0, 1) := by decide +kernel
theorem dX2_layerBehind_26 : decode cX2_layerBehind 26 = .ok (.iload_n 3, 1) := by decide +kernel
theorem dX2_layerBehind_27 : decode cX2_layerBehind 27 = .ok (.invokevirtual 38, 3) := by decide +kernel
theorem dX2_layerBehind_30 : decode cX2_layerBehind 30 = .ok (.isub, 1) := by decide +kernel
theorem dX2_layerBehind_31 : decode cX2_layerBehind 31 = .ok (.istore_n 2, 1) := by decide +kernel
theorem dX2_layerBehind_32 : decode cX2_layerBehind 32 = .ok (.iinc 3 (-1), 3) := by decide +kernel
theorem dX2_layerBehind_35 : decode cX2_layerBehind 35 = .ok (.goto (-26), 3) := by decide +kernel
theorem dX2_layerBehind_38 : decode cX2_layerBehind 38 = .ok (.iconst (-1), 1) := by decide +kernel
theorem dX2_layerBehind_39 : decode cX2_layerBehind 39 = .ok (.ireturn, 1) := by decide +kernel
set_option maxRecDepth 20000 in
theorem ggX2_lowestThickOf_X2_winterAt : GoodIn wsX2_lowestThickOf wsX2_winterAt := goodIn_r _ [6, 7, 8, 9, 10, 5, 11, 1, 17, 18, 19, 20, 21, 22, 23] (by decide +kernel) (by decide +kernel)
set_option maxRecDepth 20000 in
theorem gX2_lowestThickOf_X2_winterAt : GoodIn wsX2_lowestThickOf (wsV RX2 51 RX2 yX2_winterAt wsX2_winterAt) := goodIn_app (goodIn_of _ (by decide +kernel)) ggX2_lowestThickOf_X2_winterAt
set_option maxRecDepth 20000 in
theorem ggX2_lowestThickOf_X2_thickAt : GoodIn wsX2_lowestThickOf wsX2_thickAt := goodIn_r _ [15, 16, 8, 9, 10, 5, 11, 1, 17, 18, 19, 20, 21, 22, 23] (by decide +kernel) (by decide +kernel)
set_option maxRecDepth 20000 in
theorem gX2_lowestThickOf_X2_thickAt : GoodIn wsX2_lowestThickOf (wsV RX2 38 RX2 yX2_thickAt wsX2_thickAt) := goodIn_app (goodIn_of _ (by decide +kernel)) ggX2_lowestThickOf_X2_thickAt
theorem dX2_lowestThickOf_0 : decode cX2_lowestThickOf 0 = .ok (.iconst 0, 1) := by decide +kernel
theorem dX2_lowestThickOf_1 : decode cX2_lowestThickOf 1 = .ok (.istore_n 2, 1) := by decide +kernel
theorem dX2_lowestThickOf_2 : decode cX2_lowestThickOf 2 = .ok (.iload_n 2, 1) := by decide +kernel
theorem dX2_lowestThickOf_3 : decode cX2_lowestThickOf 3 = .ok (.aload_n 0, 1) := by decide +kernel
theorem dX2_lowestThickOf_4 : decode cX2_lowestThickOf 4 = .ok (.getfield 30, 3) := by decide +kernel
theorem dX2_lowestThickOf_7 : decode cX2_lowestThickOf 7 = .ok (.if_icmp .ge 24, 3) := by decide +kernel
theorem dX2_lowestThickOf_10 : decode cX2_lowestThickOf 10 = .ok (.aload_n 0, 1) := by decide +kernel
theorem dX2_lowestThickOf_11 : decode cX2_lowestThickOf 11 = .ok (.iload_n 2, 1) := by decide +kernel
theorem dX2_lowestThickOf_12 : decode cX2_lowestThickOf 12 = .ok (.invokevirtual 51, 3) := by decide +kernel
theorem dX2_lowestThickOf_15 : decode cX2_lowestThickOf 15 = .ok (.iload_n 1, 1) := by decide +kernel
theorem dX2_lowestThickOf_16 : decode cX2_lowestThickOf 16 = .ok (.if_icmp .ne 9, 3) := by decide +kernel
theorem dX2_lowestThickOf_19 : decode cX2_lowestThickOf 19 = .ok (.aload_n 0, 1) := by decide +kernel
theorem dX2_lowestThickOf_20 : decode cX2_lowestThickOf 20 = .ok (.iload_n 2, 1) := by decide +kernel
theorem dX2_lowestThickOf_21 : decode cX2_lowestThickOf 21 = .ok (.invokevirtual 38, 3) := by decide +kernel
theorem dX2_lowestThickOf_24 : decode cX2_lowestThickOf 24 = .ok (.ireturn, 1) := by decide +kernel
theorem dX2_lowestThickOf_25 : decode cX2_lowestThickOf 25 = .ok (.iinc 2 1, 3) := by decide +kernel
theorem dX2_lowestThickOf_28 : decode cX2_lowestThickOf 28 = .ok (.goto (-26), 3) := by decide +kernel
theorem dX2_lowestThickOf_31 : decode cX2_lowestThickOf 31 = .ok (.iconst 0, 1) := by decide +kernel
theorem dX2_lowestThickOf_32 : decode cX2_lowestThickOf 32 = .ok (.ireturn, 1) := by decide +kernel
set_option maxRecDepth 20000 in
theorem ggX2_unorderedPairs_X2_winterAt : GoodIn wsX2_unorderedPairs wsX2_winterAt := goodIn_r _ [6, 7, 8, 9, 10, 5, 11, 1, 12, 13, 14, 15, 16, 17, 18] (by decide +kernel) (by decide +kernel)
set_option maxRecDepth 20000 in
theorem gX2_unorderedPairs_X2_winterAt : GoodIn wsX2_unorderedPairs (wsV RX2 51 RX2 yX2_winterAt wsX2_winterAt) := goodIn_app (goodIn_of _ (by decide +kernel)) ggX2_unorderedPairs_X2_winterAt
theorem dX2_unorderedPairs_0 : decode cX2_unorderedPairs 0 = .ok (.iconst 0, 1) := by decide +kernel
theorem dX2_unorderedPairs_1 : decode cX2_unorderedPairs 1 = .ok (.istore_n 1, 1) := by decide +kernel
theorem dX2_unorderedPairs_2 : decode cX2_unorderedPairs 2 = .ok (.iconst 1, 1) := by decide +kernel
theorem dX2_unorderedPairs_3 : decode cX2_unorderedPairs 3 = .ok (.istore_n 2, 1) := by decide +kernel
theorem dX2_unorderedPairs_4 : decode cX2_unorderedPairs 4 = .ok (.iload_n 2, 1) := by decide +kernel
theorem dX2_unorderedPairs_5 : decode cX2_unorderedPairs 5 = .ok (.aload_n 0, 1) := by decide +kernel
theorem dX2_unorderedPairs_6 : decode cX2_unorderedPairs 6 = .ok (.getfield 30, 3) := by decide +kernel
theorem dX2_unorderedPairs_9 : decode cX2_unorderedPairs 9 = .ok (.if_icmp .ge 27, 3) := by decide +kernel
theorem dX2_unorderedPairs_12 : decode cX2_unorderedPairs 12 = .ok (.aload_n 0, 1) := by decide +kernel
theorem dX2_unorderedPairs_13 : decode cX2_unorderedPairs 13 = .ok (.iload_n 2, 1) := by decide +kernel
theorem dX2_unorderedPairs_14 : decode cX2_unorderedPairs 14 = .ok (.invokevirtual 51, 3) := by decide +kernel
theorem dX2_unorderedPairs_17 : decode cX2_unorderedPairs 17 = .ok (.aload_n 0, 1) := by decide +kernel
theorem dX2_unorderedPairs_18 : decode cX2_unorderedPairs 18 = .ok (.iload_n 2, 1) := by decide +kernel
theorem dX2_unorderedPairs_19 : decode cX2_unorderedPairs 19 = .ok (.iconst 1, 1) := by decide +kernel
theorem dX2_unorderedPairs_20 : decode cX2_unorderedPairs 20 = .ok (.isub, 1) := by decide +kernel
theorem dX2_unorderedPairs_21 : decode cX2_unorderedPairs 21 = .ok (.invokevirtual 51, 3) := by decide +kernel
theorem dX2_unorderedPairs_24 : decode cX2_unorderedPairs 24 = .ok (.if_icmp .ge 6, 3) := by decide +kernel
theorem dX2_unorderedPairs_27 : decode cX2_unorderedPairs 27 = .ok (.iinc 1 1, 3) := by decide +kernel
theorem dX2_unorderedPairs_30 : decode cX2_unorderedPairs 30 = .ok (.iinc 2 1, 3) := by decide +kernel
theorem dX2_unorderedPairs_33 : decode cX2_unorderedPairs 33 = .ok (.goto (-29), 3) := by decide +kernel
theorem dX2_unorderedPairs_36 : decode cX2_unorderedPairs 36 = .ok (.iload_n 1, 1) := by decide +kernel
theorem dX2_unorderedPairs_37 : decode cX2_unorderedPairs 37 = .ok (.ireturn, 1) := by decide +kernel
set_option maxRecDepth 20000 in
theorem ggX2_readableLayers_X2_canRead : GoodIn wsX2_readableLayers wsX2_canRead := goodIn_r _ [6, 7, 8, 9, 5, 10, 1, 11, 12, 13, 14, 15, 16, 17, 18, 19, 20, 21, 22, 23, 24, 25, 26, 27, 28, 29, 30, 31] (by decide +kernel) (by decide +kernel)
set_option maxRecDepth 20000 in
theorem gX2_readableLayers_X2_canRead : GoodIn wsX2_readableLayers (wsV RX2 54 RX2 yX2_canRead wsX2_canRead) := goodIn_app (goodIn_of _ (by decide +kernel)) ggX2_readableLayers_X2_canRead
theorem dX2_readableLayers_0 : decode cX2_readableLayers 0 = .ok (.iconst 0, 1) := by decide +kernel
theorem dX2_readableLayers_1 : decode cX2_readableLayers 1 = .ok (.istore_n 1, 1) := by decide +kernel
theorem dX2_readableLayers_2 : decode cX2_readableLayers 2 = .ok (.iconst 0, 1) := by decide +kernel
theorem dX2_readableLayers_3 : decode cX2_readableLayers 3 = .ok (.istore_n 2, 1) := by decide +kernel
theorem dX2_readableLayers_4 : decode cX2_readableLayers 4 = .ok (.iload_n 2, 1) := by decide +kernel
theorem dX2_readableLayers_5 : decode cX2_readableLayers 5 = .ok (.aload_n 0, 1) := by decide +kernel
theorem dX2_readableLayers_6 : decode cX2_readableLayers 6 = .ok (.getfield 30, 3) := by decide +kernel
theorem dX2_readableLayers_9 : decode cX2_readableLayers 9 = .ok (.if_icmp .ge 20, 3) := by decide +kernel
theorem dX2_readableLayers_12 : decode cX2_readableLayers 12 = .ok (.aload_n 0, 1) := by decide +kernel
theorem dX2_readableLayers_13 : decode cX2_readableLayers 13 = .ok (.iload_n 2, 1) := by decide +kernel
theorem dX2_readableLayers_14 : decode cX2_readableLayers 14 = .ok (.invokevirtual 54, 3) := by decide +kernel
theorem dX2_readableLayers_17 : decode cX2_readableLayers 17 = .ok (.ifCond .eq 6, 3) := by decide +kernel
theorem dX2_readableLayers_20 : decode cX2_readableLayers 20 = .ok (.iinc 1 1, 3) := by decide +kernel
theorem dX2_readableLayers_23 : decode cX2_readableLayers 23 = .ok (.iinc 2 1, 3) := by decide +kernel
theorem dX2_readableLayers_26 : decode cX2_readableLayers 26 = .ok (.goto (-22), 3) := by decide +kernel
theorem dX2_readableLayers_29 : decode cX2_readableLayers 29 = .ok (.iload_n 1, 1) := by decide +kernel
theorem dX2_readableLayers_30 : decode cX2_readableLayers 30 = .ok (.ireturn, 1) := by decide +kernel
set_option maxRecDepth 20000 in
theorem ggX2_oaths_X2_oathAt : GoodIn wsX2_oaths wsX2_oathAt := goodIn_r _ [6, 7, 8, 9, 10, 5, 11, 1, 12, 13, 14, 15, 16, 17, 18] (by decide +kernel) (by decide +kernel)
set_option maxRecDepth 20000 in
theorem gX2_oaths_X2_oathAt : GoodIn wsX2_oaths (wsV RX2 48 RX2 yX2_oathAt wsX2_oathAt) := goodIn_app (goodIn_of _ (by decide +kernel)) ggX2_oaths_X2_oathAt
theorem dX2_oaths_0 : decode cX2_oaths 0 = .ok (.iconst 0, 1) := by decide +kernel
theorem dX2_oaths_1 : decode cX2_oaths 1 = .ok (.istore_n 1, 1) := by decide +kernel
theorem dX2_oaths_2 : decode cX2_oaths 2 = .ok (.iconst 0, 1) := by decide +kernel
theorem dX2_oaths_3 : decode cX2_oaths 3 = .ok (.istore_n 2, 1) := by decide +kernel
theorem dX2_oaths_4 : decode cX2_oaths 4 = .ok (.iload_n 2, 1) := by decide +kernel
theorem dX2_oaths_5 : decode cX2_oaths 5 = .ok (.aload_n 0, 1) := by decide +kernel
theorem dX2_oaths_6 : decode cX2_oaths 6 = .ok (.getfield 30, 3) := by decide +kernel
theorem dX2_oaths_9 : decode cX2_oaths 9 = .ok (.if_icmp .ge 19, 3) := by decide +kernel
theorem dX2_oaths_12 : decode cX2_oaths 12 = .ok (.iload_n 1, 1) := by decide +kernel
theorem dX2_oaths_13 : decode cX2_oaths 13 = .ok (.iconst 1, 1) := by decide +kernel
theorem dX2_oaths_14 : decode cX2_oaths 14 = .ok (.aload_n 0, 1) := by decide +kernel
theorem dX2_oaths_15 : decode cX2_oaths 15 = .ok (.iload_n 2, 1) := by decide +kernel
theorem dX2_oaths_16 : decode cX2_oaths 16 = .ok (.invokevirtual 48, 3) := by decide +kernel
theorem dX2_oaths_19 : decode cX2_oaths 19 = .ok (.ishl, 1) := by decide +kernel
theorem dX2_oaths_20 : decode cX2_oaths 20 = .ok (.ior, 1) := by decide +kernel
theorem dX2_oaths_21 : decode cX2_oaths 21 = .ok (.istore_n 1, 1) := by decide +kernel
theorem dX2_oaths_22 : decode cX2_oaths 22 = .ok (.iinc 2 1, 3) := by decide +kernel
theorem dX2_oaths_25 : decode cX2_oaths 25 = .ok (.goto (-21), 3) := by decide +kernel
theorem dX2_oaths_28 : decode cX2_oaths 28 = .ok (.iload_n 1, 1) := by decide +kernel
theorem dX2_oaths_29 : decode cX2_oaths 29 = .ok (.ireturn, 1) := by decide +kernel
set_option maxRecDepth 20000 in
theorem ggX2_tellAhead_X2_oathAt : GoodIn wsX2_tellAhead wsX2_oathAt := goodIn_r _ [6, 7, 8, 9, 10, 5, 11, 1, 15, 16, 17, 18, 19, 20, 21] (by decide +kernel) (by decide +kernel)
set_option maxRecDepth 20000 in
theorem gX2_tellAhead_X2_oathAt : GoodIn wsX2_tellAhead (wsV RX2 48 RX2 yX2_oathAt wsX2_oathAt) := goodIn_app (goodIn_of _ (by decide +kernel)) ggX2_tellAhead_X2_oathAt
set_option maxRecDepth 20000 in
theorem ggX2_tellAhead_X11_within : GoodIn wsX2_tellAhead wsX11_within := goodIn_r _ [14] (by decide +kernel) (by decide +kernel)
set_option maxRecDepth 20000 in
theorem gX2_tellAhead_X11_within_n84 : GoodIn wsX2_tellAhead (wsX11_within) := ggX2_tellAhead_X11_within
theorem dX2_tellAhead_0 : decode cX2_tellAhead 0 = .ok (.iconst 0, 1) := by decide +kernel
theorem dX2_tellAhead_1 : decode cX2_tellAhead 1 = .ok (.istore_n 2, 1) := by decide +kernel
theorem dX2_tellAhead_2 : decode cX2_tellAhead 2 = .ok (.iconst 0, 1) := by decide +kernel
theorem dX2_tellAhead_3 : decode cX2_tellAhead 3 = .ok (.istore_n 3, 1) := by decide +kernel
theorem dX2_tellAhead_4 : decode cX2_tellAhead 4 = .ok (.iload_n 3, 1) := by decide +kernel
theorem dX2_tellAhead_5 : decode cX2_tellAhead 5 = .ok (.aload_n 0, 1) := by decide +kernel
theorem dX2_tellAhead_6 : decode cX2_tellAhead 6 = .ok (.getfield 30, 3) := by decide +kernel
theorem dX2_tellAhead_9 : decode cX2_tellAhead 9 = .ok (.if_icmp .ge 51, 3) := by decide +kernel
theorem dX2_tellAhead_12 : decode cX2_tellAhead 12 = .ok (.aload_n 0, 1) := by decide +kernel
theorem dX2_tellAhead_13 : decode cX2_tellAhead 13 = .ok (.iload_n 3, 1) := by decide +kernel
theorem dX2_tellAhead_14 : decode cX2_tellAhead 14 = .ok (.invokevirtual 48, 3) := by decide +kernel
theorem dX2_tellAhead_17 : decode cX2_tellAhead 17 = .ok (.istore 4, 2) := by decide +kernel
theorem dX2_tellAhead_19 : decode cX2_tellAhead 19 = .ok (.iload 4, 2) := by decide +kernel
theorem dX2_tellAhead_21 : decode cX2_tellAhead 21 = .ok (.iconst 0, 1) := by decide +kernel
theorem dX2_tellAhead_22 : decode cX2_tellAhead 22 = .ok (.aload_n 1, 1) := by decide +kernel
theorem dX2_tellAhead_23 : decode cX2_tellAhead 23 = .ok (.arraylength, 1) := by decide +kernel
theorem dX2_tellAhead_24 : decode cX2_tellAhead 24 = .ok (.iconst 1, 1) := by decide +kernel
theorem dX2_tellAhead_25 : decode cX2_tellAhead 25 = .ok (.isub, 1) := by decide +kernel
theorem dX2_tellAhead_26 : decode cX2_tellAhead 26 = .ok (.invokestatic 84, 3) := by decide +kernel
theorem dX2_tellAhead_29 : decode cX2_tellAhead 29 = .ok (.ifCond .eq 18, 3) := by decide +kernel
theorem dX2_tellAhead_32 : decode cX2_tellAhead 32 = .ok (.aload_n 1, 1) := by decide +kernel
theorem dX2_tellAhead_33 : decode cX2_tellAhead 33 = .ok (.iload 4, 2) := by decide +kernel
theorem dX2_tellAhead_35 : decode cX2_tellAhead 35 = .ok (.dup2, 1) := by decide +kernel
theorem dX2_tellAhead_36 : decode cX2_tellAhead 36 = .ok (.iaload, 1) := by decide +kernel
theorem dX2_tellAhead_37 : decode cX2_tellAhead 37 = .ok (.iload_n 2, 1) := by decide +kernel
theorem dX2_tellAhead_38 : decode cX2_tellAhead 38 = .ok (.iconst 1, 1) := by decide +kernel
theorem dX2_tellAhead_39 : decode cX2_tellAhead 39 = .ok (.iload 4, 2) := by decide +kernel
theorem dX2_tellAhead_41 : decode cX2_tellAhead 41 = .ok (.ishl, 1) := by decide +kernel
theorem dX2_tellAhead_42 : decode cX2_tellAhead 42 = .ok (.iconst (-1), 1) := by decide +kernel
theorem dX2_tellAhead_43 : decode cX2_tellAhead 43 = .ok (.ixor, 1) := by decide +kernel
theorem dX2_tellAhead_44 : decode cX2_tellAhead 44 = .ok (.iand, 1) := by decide +kernel
theorem dX2_tellAhead_45 : decode cX2_tellAhead 45 = .ok (.ior, 1) := by decide +kernel
theorem dX2_tellAhead_46 : decode cX2_tellAhead 46 = .ok (.iastore, 1) := by decide +kernel
theorem dX2_tellAhead_47 : decode cX2_tellAhead 47 = .ok (.iload_n 2, 1) := by decide +kernel
theorem dX2_tellAhead_48 : decode cX2_tellAhead 48 = .ok (.iconst 1, 1) := by decide +kernel
theorem dX2_tellAhead_49 : decode cX2_tellAhead 49 = .ok (.iload 4, 2) := by decide +kernel
theorem dX2_tellAhead_51 : decode cX2_tellAhead 51 = .ok (.ishl, 1) := by decide +kernel
theorem dX2_tellAhead_52 : decode cX2_tellAhead 52 = .ok (.ior, 1) := by decide +kernel
theorem dX2_tellAhead_53 : decode cX2_tellAhead 53 = .ok (.istore_n 2, 1) := by decide +kernel
theorem dX2_tellAhead_54 : decode cX2_tellAhead 54 = .ok (.iinc 3 1, 3) := by decide +kernel
theorem dX2_tellAhead_57 : decode cX2_tellAhead 57 = .ok (.goto (-53), 3) := by decide +kernel
theorem dX2_tellAhead_60 : decode cX2_tellAhead 60 = .ok (.return_, 1) := by decide +kernel
set_option maxRecDepth 20000 in
theorem ggX3_init_X7_init : GoodIn wsX3_init wsX7_init := goodIn_r _ [3, 4, 5, 6] (by decide +kernel) (by decide +kernel)
set_option maxRecDepth 20000 in
theorem gX3_init_X7_init_n1 : GoodIn wsX3_init (wsX7_init) := ggX3_init_X7_init
theorem dX3_init_0 : decode cX3_init 0 = .ok (.aload_n 0, 1) := by decide +kernel
theorem dX3_init_1 : decode cX3_init 1 = .ok (.invokespecial 1, 3) := by decide +kernel
theorem dX3_init_4 : decode cX3_init 4 = .ok (.return_, 1) := by decide +kernel
set_option maxRecDepth 20000 in
theorem ggX3_fingersIn_X7_fingersIn : GoodIn wsX3_fingersIn wsX7_fingersIn := goodIn_r _ [6] (by decide +kernel) (by decide +kernel)
set_option maxRecDepth 20000 in
theorem gX3_fingersIn_X7_fingersIn_s7 : GoodIn wsX3_fingersIn (va_wsSU RX3 7 yX7_fingersIn wsX7_fingersIn) := goodIn_app (goodIn_of _ (by decide +kernel)) ggX3_fingersIn_X7_fingersIn
theorem dX3_fingersIn_0 : decode cX3_fingersIn 0 = .ok (.aload_n 0, 1) := by decide +kernel
theorem dX3_fingersIn_1 : decode cX3_fingersIn 1 = .ok (.iload_n 1, 1) := by decide +kernel
theorem dX3_fingersIn_2 : decode cX3_fingersIn 2 = .ok (.iload_n 2, 1) := by decide +kernel
theorem dX3_fingersIn_3 : decode cX3_fingersIn 3 = .ok (.invokespecial 7, 3) := by decide +kernel
theorem dX3_fingersIn_6 : decode cX3_fingersIn 6 = .ok (.iconst 1, 1) := by decide +kernel
theorem dX3_fingersIn_7 : decode cX3_fingersIn 7 = .ok (.iadd, 1) := by decide +kernel
theorem dX3_fingersIn_8 : decode cX3_fingersIn 8 = .ok (.ireturn, 1) := by decide +kernel
set_option maxRecDepth 20000 in
theorem ggX3_melts_X7_melts : GoodIn wsX3_melts wsX7_melts := goodIn_r _ [6] (by decide +kernel) (by decide +kernel)
set_option maxRecDepth 20000 in
theorem gX3_melts_X7_melts_s11 : GoodIn wsX3_melts (va_wsSU RX3 11 yX7_melts wsX7_melts) := goodIn_app (goodIn_of _ (by decide +kernel)) ggX3_melts_X7_melts
theorem dX3_melts_0 : decode cX3_melts 0 = .ok (.aload_n 0, 1) := by decide +kernel
theorem dX3_melts_1 : decode cX3_melts 1 = .ok (.iload_n 1, 1) := by decide +kernel
theorem dX3_melts_2 : decode cX3_melts 2 = .ok (.invokespecial 11, 3) := by decide +kernel
theorem dX3_melts_5 : decode cX3_melts 5 = .ok (.iconst 1, 1) := by decide +kernel
theorem dX3_melts_6 : decode cX3_melts 6 = .ok (.isub, 1) := by decide +kernel
theorem dX3_melts_7 : decode cX3_melts 7 = .ok (.ireturn, 1) := by decide +kernel
set_option maxRecDepth 20000 in
theorem ggX3_light_X7_light : GoodIn wsX3_light wsX7_light := goodIn_r _ [6] (by decide +kernel) (by decide +kernel)
set_option maxRecDepth 20000 in
theorem gX3_light_X7_light_s15 : GoodIn wsX3_light (va_wsSU RX3 15 yX7_light wsX7_light) := goodIn_app (goodIn_of _ (by decide +kernel)) ggX3_light_X7_light
theorem dX3_light_0 : decode cX3_light 0 = .ok (.aload_n 0, 1) := by decide +kernel
theorem dX3_light_1 : decode cX3_light 1 = .ok (.iload_n 1, 1) := by decide +kernel
theorem dX3_light_2 : decode cX3_light 2 = .ok (.invokespecial 15, 3) := by decide +kernel
theorem dX3_light_5 : decode cX3_light 5 = .ok (.iconst 5, 1) := by decide +kernel
theorem dX3_light_6 : decode cX3_light 6 = .ok (.iadd, 1) := by decide +kernel
theorem dX3_light_7 : decode cX3_light 7 = .ok (.ireturn, 1) := by decide +kernel
set_option maxRecDepth 20000 in
theorem ggX3_tollWith_X7_tollWith : GoodIn wsX3_tollWith wsX7_tollWith := goodIn_r _ [6] (by decide +kernel) (by decide +kernel)
set_option maxRecDepth 20000 in
theorem gX3_tollWith_X7_tollWith_s18 : GoodIn wsX3_tollWith (va_wsSU RX3 18 yX7_tollWith wsX7_tollWith) := goodIn_app (goodIn_of _ (by decide +kernel)) ggX3_tollWith_X7_tollWith
theorem dX3_tollWith_0 : decode cX3_tollWith 0 = .ok (.aload_n 0, 1) := by decide +kernel
theorem dX3_tollWith_1 : decode cX3_tollWith 1 = .ok (.iload_n 1, 1) := by decide +kernel
theorem dX3_tollWith_2 : decode cX3_tollWith 2 = .ok (.invokespecial 18, 3) := by decide +kernel
theorem dX3_tollWith_5 : decode cX3_tollWith 5 = .ok (.iload_n 1, 1) := by decide +kernel
theorem dX3_tollWith_6 : decode cX3_tollWith 6 = .ok (.iadd, 1) := by decide +kernel
theorem dX3_tollWith_7 : decode cX3_tollWith 7 = .ok (.ireturn, 1) := by decide +kernel
set_option maxRecDepth 20000 in
theorem ggX4_init_X10_init : GoodIn wsX4_init wsX10_init := goodIn_r _ [3, 4, 5, 6, 7, 8, 9] (by decide +kernel) (by decide +kernel)
set_option maxRecDepth 20000 in
theorem gX4_init_X10_init_n1 : GoodIn wsX4_init (wsX10_init) := ggX4_init_X10_init
theorem dX4_init_0 : decode cX4_init 0 = .ok (.aload_n 0, 1) := by decide +kernel
theorem dX4_init_1 : decode cX4_init 1 = .ok (.invokespecial 1, 3) := by decide +kernel
theorem dX4_init_4 : decode cX4_init 4 = .ok (.return_, 1) := by decide +kernel
set_option maxRecDepth 20000 in
theorem ggX4_melts_X10_melts : GoodIn wsX4_melts wsX10_melts := goodIn_r _ [6, 7, 8, 9, 10, 11, 12] (by decide +kernel) (by decide +kernel)
set_option maxRecDepth 20000 in
theorem gX4_melts_X10_melts_s7 : GoodIn wsX4_melts (va_wsSU RX4 7 yX10_melts wsX10_melts) := goodIn_app (goodIn_of _ (by decide +kernel)) ggX4_melts_X10_melts
theorem dX4_melts_0 : decode cX4_melts 0 = .ok (.aload_n 0, 1) := by decide +kernel
theorem dX4_melts_1 : decode cX4_melts 1 = .ok (.iload_n 1, 1) := by decide +kernel
theorem dX4_melts_2 : decode cX4_melts 2 = .ok (.invokespecial 7, 3) := by decide +kernel
theorem dX4_melts_5 : decode cX4_melts 5 = .ok (.iload_n 1, 1) := by decide +kernel
theorem dX4_melts_6 : decode cX4_melts 6 = .ok (.iadd, 1) := by decide +kernel
theorem dX4_melts_7 : decode cX4_melts 7 = .ok (.ireturn, 1) := by decide +kernel
theorem dX4_light_0 : decode cX4_light 0 = .ok (.iconst 0, 1) := by decide +kernel
theorem dX4_light_1 : decode cX4_light 1 = .ok (.ireturn, 1) := by decide +kernel
set_option maxRecDepth 20000 in
theorem ggX4_tollWith_X10_tollWith : GoodIn wsX4_tollWith wsX10_tollWith := goodIn_r _ [6, 7, 8, 9, 10, 11, 12] (by decide +kernel) (by decide +kernel)
set_option maxRecDepth 20000 in
theorem gX4_tollWith_X10_tollWith_s11 : GoodIn wsX4_tollWith (va_wsSU RX4 11 yX10_tollWith wsX10_tollWith) := goodIn_app (goodIn_of _ (by decide +kernel)) ggX4_tollWith_X10_tollWith
theorem dX4_tollWith_0 : decode cX4_tollWith 0 = .ok (.aload_n 0, 1) := by decide +kernel
theorem dX4_tollWith_1 : decode cX4_tollWith 1 = .ok (.iload_n 1, 1) := by decide +kernel
theorem dX4_tollWith_2 : decode cX4_tollWith 2 = .ok (.invokespecial 11, 3) := by decide +kernel
theorem dX4_tollWith_5 : decode cX4_tollWith 5 = .ok (.iload_n 1, 1) := by decide +kernel
theorem dX4_tollWith_6 : decode cX4_tollWith 6 = .ok (.isub, 1) := by decide +kernel
theorem dX4_tollWith_7 : decode cX4_tollWith 7 = .ok (.ireturn, 1) := by decide +kernel
set_option maxRecDepth 20000 in
theorem ggX5_init_X7_init : GoodIn wsX5_init wsX7_init := goodIn_r _ [3, 4, 5, 6] (by decide +kernel) (by decide +kernel)
set_option maxRecDepth 20000 in
theorem gX5_init_X7_init_n1 : GoodIn wsX5_init (wsX7_init) := ggX5_init_X7_init
theorem dX5_init_0 : decode cX5_init 0 = .ok (.aload_n 0, 1) := by decide +kernel
theorem dX5_init_1 : decode cX5_init 1 = .ok (.invokespecial 1, 3) := by decide +kernel
theorem dX5_init_4 : decode cX5_init 4 = .ok (.return_, 1) := by decide +kernel
set_option maxRecDepth 20000 in
theorem ggX5_fingersIn_X7_fingersIn : GoodIn wsX5_fingersIn wsX7_fingersIn := goodIn_r _ [10] (by decide +kernel) (by decide +kernel)
set_option maxRecDepth 20000 in
theorem gX5_fingersIn_X7_fingersIn_s7 : GoodIn wsX5_fingersIn (va_wsSU RX5 7 yX7_fingersIn wsX7_fingersIn) := goodIn_app (goodIn_of _ (by decide +kernel)) ggX5_fingersIn_X7_fingersIn
theorem dX5_fingersIn_0 : decode cX5_fingersIn 0 = .ok (.iconst 1, 1) := by decide +kernel
theorem dX5_fingersIn_1 : decode cX5_fingersIn 1 = .ok (.aload_n 0, 1) := by decide +kernel
theorem dX5_fingersIn_2 : decode cX5_fingersIn 2 = .ok (.iload_n 1, 1) := by decide +kernel
theorem dX5_fingersIn_3 : decode cX5_fingersIn 3 = .ok (.iload_n 2, 1) := by decide +kernel
theorem dX5_fingersIn_4 : decode cX5_fingersIn 4 = .ok (.invokespecial 7, 3) := by decide +kernel
theorem dX5_fingersIn_7 : decode cX5_fingersIn 7 = .ok (.iconst 2, 1) := by decide +kernel
theorem dX5_fingersIn_8 : decode cX5_fingersIn 8 = .ok (.idiv, 1) := by decide +kernel
theorem dX5_fingersIn_9 : decode cX5_fingersIn 9 = .ok (.invokestatic 11, 3) := by decide +kernel
theorem dX5_fingersIn_12 : decode cX5_fingersIn 12 = .ok (.ireturn, 1) := by decide +kernel
set_option maxRecDepth 20000 in
theorem ggX5_melts_X7_melts : GoodIn wsX5_melts wsX7_melts := goodIn_r _ [6] (by decide +kernel) (by decide +kernel)
set_option maxRecDepth 20000 in
theorem gX5_melts_X7_melts_s16 : GoodIn wsX5_melts (va_wsSU RX5 16 yX7_melts wsX7_melts) := goodIn_app (goodIn_of _ (by decide +kernel)) ggX5_melts_X7_melts
theorem dX5_melts_0 : decode cX5_melts 0 = .ok (.iconst 2, 1) := by decide +kernel
theorem dX5_melts_1 : decode cX5_melts 1 = .ok (.aload_n 0, 1) := by decide +kernel
theorem dX5_melts_2 : decode cX5_melts 2 = .ok (.iload_n 1, 1) := by decide +kernel
theorem dX5_melts_3 : decode cX5_melts 3 = .ok (.invokespecial 16, 3) := by decide +kernel
theorem dX5_melts_6 : decode cX5_melts 6 = .ok (.imul, 1) := by decide +kernel
theorem dX5_melts_7 : decode cX5_melts 7 = .ok (.ireturn, 1) := by decide +kernel
set_option maxRecDepth 20000 in
theorem ggX5_tollWith_X7_tollWith : GoodIn wsX5_tollWith wsX7_tollWith := goodIn_r _ [6] (by decide +kernel) (by decide +kernel)
set_option maxRecDepth 20000 in
theorem gX5_tollWith_X7_tollWith_s20 : GoodIn wsX5_tollWith (va_wsSU RX5 20 yX7_tollWith wsX7_tollWith) := goodIn_app (goodIn_of _ (by decide +kernel)) ggX5_tollWith_X7_tollWith
theorem dX5_tollWith_0 : decode cX5_tollWith 0 = .ok (.aload_n 0, 1) := by decide +kernel
theorem dX5_tollWith_1 : decode cX5_tollWith 1 = .ok (.iload_n 1, 1) := by decide +kernel
theorem dX5_tollWith_2 : decode cX5_tollWith 2 = .ok (.invokespecial 20, 3) := by decide +kernel
theorem dX5_tollWith_5 : decode cX5_tollWith 5 = .ok (.iload_n 1, 1) := by decide +kernel
theorem dX5_tollWith_6 : decode cX5_tollWith 6 = .ok (.iconst 1, 1) := by decide +kernel
theorem dX5_tollWith_7 : decode cX5_tollWith 7 = .ok (.iadd, 1) := by decide +kernel
theorem dX5_tollWith_8 : decode cX5_tollWith 8 = .ok (.imul, 1) := by decide +kernel
theorem dX5_tollWith_9 : decode cX5_tollWith 9 = .ok (.ireturn, 1) := by decide +kernel
theorem dX5_fail_0 : decode cX5_fail 0 = .ok (.return_, 1) := by decide +kernel
set_option maxRecDepth 20000 in
theorem ggX6_init_X2_init : GoodIn wsX6_init wsX2_init := goodIn_r _ [10, 11, 2, 3, 12, 13, 14, 15, 16, 17, 18, 22, 23, 24, 25, 26, 27, 28] (by decide +kernel) (by decide +kernel)
set_option maxRecDepth 20000 in
theorem gX6_init_X2_init_n21 : GoodIn wsX6_init (wsX2_init) := ggX6_init_X2_init
theorem dX6_init_0 : decode cX6_init 0 = .ok (.aload_n 0, 1) := by decide +kernel
theorem dX6_init_1 : decode cX6_init 1 = .ok (.invokespecial 3, 3) := by decide +kernel
theorem dX6_init_4 : decode cX6_init 4 = .ok (.aload_n 0, 1) := by decide +kernel
theorem dX6_init_5 : decode cX6_init 5 = .ok (.bipush 6, 2) := by decide +kernel
theorem dX6_init_7 : decode cX6_init 7 = .ok (.anewarray 9, 3) := by decide +kernel
theorem dX6_init_10 : decode cX6_init 10 = .ok (.putfield 11, 3) := by decide +kernel
theorem dX6_init_13 : decode cX6_init 13 = .ok (.aload_n 0, 1) := by decide +kernel
theorem dX6_init_14 : decode cX6_init 14 = .ok (.aload_n 1, 1) := by decide +kernel
theorem dX6_init_15 : decode cX6_init 15 = .ok (.putfield 17, 3) := by decide +kernel
theorem dX6_init_18 : decode cX6_init 18 = .ok (.iconst 0, 1) := by decide +kernel
theorem dX6_init_19 : decode cX6_init 19 = .ok (.istore_n 2, 1) := by decide +kernel
theorem dX6_init_20 : decode cX6_init 20 = .ok (.iload_n 2, 1) := by decide +kernel
theorem dX6_init_21 : decode cX6_init 21 = .ok (.bipush 6, 2) := by decide +kernel
theorem dX6_init_23 : decode cX6_init 23 = .ok (.if_icmp .ge 22, 3) := by decide +kernel
theorem dX6_init_26 : decode cX6_init 26 = .ok (.aload_n 0, 1) := by decide +kernel
theorem dX6_init_27 : decode cX6_init 27 = .ok (.getfield 11, 3) := by decide +kernel
theorem dX6_init_30 : decode cX6_init 30 = .ok (.iload_n 2, 1) := by decide +kernel
theorem dX6_init_31 : decode cX6_init 31 = .ok (.new 9, 3) := by decide +kernel
theorem dX6_init_34 : decode cX6_init 34 = .ok (.dup, 1) := by decide +kernel
theorem dX6_init_35 : decode cX6_init 35 = .ok (.invokespecial 21, 3) := by decide +kernel
theorem dX6_init_38 : decode cX6_init 38 = .ok (.aastore, 1) := by decide +kernel
theorem dX6_init_39 : decode cX6_init 39 = .ok (.iinc 2 1, 3) := by decide +kernel
theorem dX6_init_42 : decode cX6_init 42 = .ok (.goto (-22), 3) := by decide +kernel
theorem dX6_init_45 : decode cX6_init 45 = .ok (.return_, 1) := by decide +kernel
set_option maxRecDepth 20000 in
theorem ggX6_cellAt_X11_within : GoodIn wsX6_cellAt wsX11_within := goodIn_r _ [4] (by decide +kernel) (by decide +kernel)
set_option maxRecDepth 20000 in
theorem gX6_cellAt_X11_within_n22 : GoodIn wsX6_cellAt (wsX11_within) := ggX6_cellAt_X11_within
theorem dX6_cellAt_0 : decode cX6_cellAt 0 = .ok (.iload_n 1, 1) := by decide +kernel
theorem dX6_cellAt_1 : decode cX6_cellAt 1 = .ok (.iconst 0, 1) := by decide +kernel
theorem dX6_cellAt_2 : decode cX6_cellAt 2 = .ok (.iconst 5, 1) := by decide +kernel
theorem dX6_cellAt_3 : decode cX6_cellAt 3 = .ok (.invokestatic 22, 3) := by decide +kernel
theorem dX6_cellAt_6 : decode cX6_cellAt 6 = .ok (.ifCond .eq 12, 3) := by decide +kernel
theorem dX6_cellAt_9 : decode cX6_cellAt 9 = .ok (.aload_n 0, 1) := by decide +kernel
theorem dX6_cellAt_10 : decode cX6_cellAt 10 = .ok (.getfield 11, 3) := by decide +kernel
theorem dX6_cellAt_13 : decode cX6_cellAt 13 = .ok (.iload_n 1, 1) := by decide +kernel
theorem dX6_cellAt_14 : decode cX6_cellAt 14 = .ok (.aaload, 1) := by decide +kernel
theorem dX6_cellAt_15 : decode cX6_cellAt 15 = .ok (.goto 4, 3) := by decide +kernel
theorem dX6_cellAt_18 : decode cX6_cellAt 18 = .ok (.aconst_null, 1) := by decide +kernel
theorem dX6_cellAt_19 : decode cX6_cellAt 19 = .ok (.areturn, 1) := by decide +kernel
set_option maxRecDepth 20000 in
theorem ggX6_takeAll_X2_takeLayers : GoodIn wsX6_takeAll wsX2_takeLayers := goodIn_r _ [7, 8, 9, 10, 11, 12, 13, 14, 18, 19, 20, 21, 22, 23, 24] (by decide +kernel) (by decide +kernel)
set_option maxRecDepth 20000 in
theorem gX6_takeAll_X2_takeLayers : GoodIn wsX6_takeAll (wsV RX6 30 RX2 yX2_takeLayers wsX2_takeLayers) := goodIn_app (goodIn_of _ (by decide +kernel)) ggX6_takeAll_X2_takeLayers
theorem dX6_takeAll_0 : decode cX6_takeAll 0 = .ok (.aload_n 0, 1) := by decide +kernel
theorem dX6_takeAll_1 : decode cX6_takeAll 1 = .ok (.aload_n 1, 1) := by decide +kernel
theorem dX6_takeAll_2 : decode cX6_takeAll 2 = .ok (.getfield 26, 3) := by decide +kernel
theorem dX6_takeAll_5 : decode cX6_takeAll 5 = .ok (.putfield 26, 3) := by decide +kernel
theorem dX6_takeAll_8 : decode cX6_takeAll 8 = .ok (.iconst 0, 1) := by decide +kernel
theorem dX6_takeAll_9 : decode cX6_takeAll 9 = .ok (.istore_n 2, 1) := by decide +kernel
theorem dX6_takeAll_10 : decode cX6_takeAll 10 = .ok (.iload_n 2, 1) := by decide +kernel
theorem dX6_takeAll_11 : decode cX6_takeAll 11 = .ok (.bipush 6, 2) := by decide +kernel
theorem dX6_takeAll_13 : decode cX6_takeAll 13 = .ok (.if_icmp .ge 24, 3) := by decide +kernel
theorem dX6_takeAll_16 : decode cX6_takeAll 16 = .ok (.aload_n 0, 1) := by decide +kernel
theorem dX6_takeAll_17 : decode cX6_takeAll 17 = .ok (.getfield 11, 3) := by decide +kernel
theorem dX6_takeAll_20 : decode cX6_takeAll 20 = .ok (.iload_n 2, 1) := by decide +kernel
theorem dX6_takeAll_21 : decode cX6_takeAll 21 = .ok (.aaload, 1) := by decide +kernel
theorem dX6_takeAll_22 : decode cX6_takeAll 22 = .ok (.aload_n 1, 1) := by decide +kernel
theorem dX6_takeAll_23 : decode cX6_takeAll 23 = .ok (.getfield 11, 3) := by decide +kernel
theorem dX6_takeAll_26 : decode cX6_takeAll 26 = .ok (.iload_n 2, 1) := by decide +kernel
theorem dX6_takeAll_27 : decode cX6_takeAll 27 = .ok (.aaload, 1) := by decide +kernel
theorem dX6_takeAll_28 : decode cX6_takeAll 28 = .ok (.invokevirtual 30, 3) := by decide +kernel
theorem dX6_takeAll_31 : decode cX6_takeAll 31 = .ok (.iinc 2 1, 3) := by decide +kernel
theorem dX6_takeAll_34 : decode cX6_takeAll 34 = .ok (.goto (-24), 3) := by decide +kernel
theorem dX6_takeAll_37 : decode cX6_takeAll 37 = .ok (.return_, 1) := by decide +kernel
set_option maxRecDepth 20000 in
theorem ggX6_freezeIn_X6_cellAt : GoodIn wsX6_freezeIn wsX6_cellAt := goodIn_r _ [7, 8, 9, 10, 11, 142, 143, 144] (by decide +kernel) (by decide +kernel)
set_option maxRecDepth 20000 in
theorem gX6_freezeIn_X6_cellAt : GoodIn wsX6_freezeIn (wsV RX6 34 RX6 yX6_cellAt wsX6_cellAt) := goodIn_app (goodIn_of _ (by decide +kernel)) ggX6_freezeIn_X6_cellAt
set_option maxRecDepth 20000 in
theorem ggX6_freezeIn_X11_isKindAndOath : GoodIn wsX6_freezeIn wsX11_isKindAndOath := goodIn_r _ [13, 14, 9, 10, 11] (by decide +kernel) (by decide +kernel)
set_option maxRecDepth 20000 in
theorem gX6_freezeIn_X11_isKindAndOath_n38 : GoodIn wsX6_freezeIn (wsX11_isKindAndOath) := ggX6_freezeIn_X11_isKindAndOath
set_option maxRecDepth 20000 in
theorem ggX6_freezeIn_X11_within : GoodIn wsX6_freezeIn wsX11_within := goodIn_r _ [11] (by decide +kernel) (by decide +kernel)
set_option maxRecDepth 20000 in
theorem gX6_freezeIn_X11_within_n22 : GoodIn wsX6_freezeIn (wsX11_within) := ggX6_freezeIn_X11_within
set_option maxRecDepth 20000 in
theorem ggX6_freezeIn_X11_kindOf : GoodIn wsX6_freezeIn wsX11_kindOf := goodIn_r _ [16, 14, 9, 10, 11] (by decide +kernel) (by decide +kernel)
set_option maxRecDepth 20000 in
theorem gX6_freezeIn_X11_kindOf_n42 : GoodIn wsX6_freezeIn (wsX11_kindOf) := ggX6_freezeIn_X11_kindOf
set_option maxRecDepth 20000 in
theorem ggX6_freezeIn_X2_freezeOn : GoodIn wsX6_freezeIn wsX2_freezeOn := goodIn_r _ [21, 22, 23, 24, 25, 26, 27, 28, 29, 30, 31, 32, 33, 34, 35, 36, 37, 38, 39, 40, 41, 42, 43, 44, 45, 46, 47, 48, 49, 50, 51, 52, 53, 54, 55, 56, 57, 58, 59, 60, 61, 62, 63, 64, 65, 66, 67, 68, 69, 70, 71, 72, 73, 74, 75, 76, 77, 78, 79, 80, 81, 82, 83, 84, 85, 86, 87, 88, 89, 90, 91, 92, 93, 94, 95, 96, 97, 98, 99, 100, 101, 102, 103, 104, 105, 106, 107, 108, 109, 110, 111, 112, 113, 114, 115, 116, 117, 118, 119, 120, 121, 122, 123, 124, 125, 126, 127, 128, 129, 130, 131, 132, 133, 134, 135, 136, 137, 138, 139, 140, 141, 145, 146, 147, 148, 149, 150, 151] (by decide +kernel) (by decide +kernel)
set_option maxRecDepth 20000 in
theorem gX6_freezeIn_X2_freezeOn : GoodIn wsX6_freezeIn (wsV RX6 46 RX2 yX2_freezeOn wsX2_freezeOn) := goodIn_app (goodIn_of _ (by decide +kernel)) ggX6_freezeIn_X2_freezeOn
theorem dX6_freezeIn_0 : decode cX6_freezeIn 0 = .ok (.aload_n 0, 1) := by decide +kernel
theorem dX6_freezeIn_1 : decode cX6_freezeIn 1 = .ok (.iload_n 1, 1) := by decide +kernel
theorem dX6_freezeIn_2 : decode cX6_freezeIn 2 = .ok (.invokevirtual 34, 3) := by decide +kernel
theorem dX6_freezeIn_5 : decode cX6_freezeIn 5 = .ok (.astore 5, 2) := by decide +kernel
theorem dX6_freezeIn_7 : decode cX6_freezeIn 7 = .ok (.aload 5, 2) := by decide +kernel
theorem dX6_freezeIn_9 : decode cX6_freezeIn 9 = .ok (.ifnull 22, 3) := by decide +kernel
theorem dX6_freezeIn_12 : decode cX6_freezeIn 12 = .ok (.iload_n 2, 1) := by decide +kernel
theorem dX6_freezeIn_13 : decode cX6_freezeIn 13 = .ok (.iload_n 3, 1) := by decide +kernel
theorem dX6_freezeIn_14 : decode cX6_freezeIn 14 = .ok (.invokestatic 38, 3) := by decide +kernel
theorem dX6_freezeIn_17 : decode cX6_freezeIn 17 = .ok (.ifCond .eq 14, 3) := by decide +kernel
theorem dX6_freezeIn_20 : decode cX6_freezeIn 20 = .ok (.iload 4, 2) := by decide +kernel
theorem dX6_freezeIn_22 : decode cX6_freezeIn 22 = .ok (.iconst 1, 1) := by decide +kernel
theorem dX6_freezeIn_23 : decode cX6_freezeIn 23 = .ok (.bipush 9, 2) := by decide +kernel
theorem dX6_freezeIn_25 : decode cX6_freezeIn 25 = .ok (.invokestatic 22, 3) := by decide +kernel
theorem dX6_freezeIn_28 : decode cX6_freezeIn 28 = .ok (.ifCond .ne 5, 3) := by decide +kernel
theorem dX6_freezeIn_31 : decode cX6_freezeIn 31 = .ok (.iconst (-1), 1) := by decide +kernel
theorem dX6_freezeIn_32 : decode cX6_freezeIn 32 = .ok (.ireturn, 1) := by decide +kernel
theorem dX6_freezeIn_33 : decode cX6_freezeIn 33 = .ok (.aload 5, 2) := by decide +kernel
theorem dX6_freezeIn_35 : decode cX6_freezeIn 35 = .ok (.aload_n 0, 1) := by decide +kernel
theorem dX6_freezeIn_36 : decode cX6_freezeIn 36 = .ok (.getfield 17, 3) := by decide +kernel
theorem dX6_freezeIn_39 : decode cX6_freezeIn 39 = .ok (.iload_n 2, 1) := by decide +kernel
theorem dX6_freezeIn_40 : decode cX6_freezeIn 40 = .ok (.invokestatic 42, 3) := by decide +kernel
theorem dX6_freezeIn_43 : decode cX6_freezeIn 43 = .ok (.iload_n 2, 1) := by decide +kernel
theorem dX6_freezeIn_44 : decode cX6_freezeIn 44 = .ok (.iload_n 3, 1) := by decide +kernel
theorem dX6_freezeIn_45 : decode cX6_freezeIn 45 = .ok (.iload 4, 2) := by decide +kernel
theorem dX6_freezeIn_47 : decode cX6_freezeIn 47 = .ok (.aload_n 0, 1) := by decide +kernel
theorem dX6_freezeIn_48 : decode cX6_freezeIn 48 = .ok (.getfield 26, 3) := by decide +kernel
theorem dX6_freezeIn_51 : decode cX6_freezeIn 51 = .ok (.invokevirtual 46, 3) := by decide +kernel
theorem dX6_freezeIn_54 : decode cX6_freezeIn 54 = .ok (.ireturn, 1) := by decide +kernel
set_option maxRecDepth 20000 in
theorem ggX6_thawFor_X11_within : GoodIn wsX6_thawFor wsX11_within := goodIn_r _ [4] (by decide +kernel) (by decide +kernel)
set_option maxRecDepth 20000 in
theorem gX6_thawFor_X11_within_n22 : GoodIn wsX6_thawFor (wsX11_within) := ggX6_thawFor_X11_within
set_option maxRecDepth 20000 in
theorem ggX6_thawFor_X2_warmDay : GoodIn wsX6_thawFor wsX2_warmDay := goodIn_r _ [9, 10, 11, 12, 13, 14, 15, 16, 17, 8, 18, 19, 20, 21, 22, 23, 24, 25, 26, 27, 28, 29, 30, 31, 32, 36, 37, 38, 39, 40, 41, 42] (by decide +kernel) (by decide +kernel)
set_option maxRecDepth 20000 in
theorem gX6_thawFor_X2_warmDay : GoodIn wsX6_thawFor (wsV RX6 53 RX2 yX2_warmDay wsX2_warmDay) := goodIn_app (goodIn_of _ (by decide +kernel)) ggX6_thawFor_X2_warmDay
theorem dX6_thawFor_0 : decode cX6_thawFor 0 = .ok (.iload_n 1, 1) := by decide +kernel
theorem dX6_thawFor_1 : decode cX6_thawFor 1 = .ok (.iconst 1, 1) := by decide +kernel
theorem dX6_thawFor_2 : decode cX6_thawFor 2 = .ok (.bipush 99, 2) := by decide +kernel
theorem dX6_thawFor_4 : decode cX6_thawFor 4 = .ok (.invokestatic 22, 3) := by decide +kernel
theorem dX6_thawFor_7 : decode cX6_thawFor 7 = .ok (.ifCond .ne 5, 3) := by decide +kernel
theorem dX6_thawFor_10 : decode cX6_thawFor 10 = .ok (.iconst (-1), 1) := by decide +kernel
theorem dX6_thawFor_11 : decode cX6_thawFor 11 = .ok (.ireturn, 1) := by decide +kernel
theorem dX6_thawFor_12 : decode cX6_thawFor 12 = .ok (.iconst 0, 1) := by decide +kernel
theorem dX6_thawFor_13 : decode cX6_thawFor 13 = .ok (.istore_n 2, 1) := by decide +kernel
theorem dX6_thawFor_14 : decode cX6_thawFor 14 = .ok (.aload_n 0, 1) := by decide +kernel
theorem dX6_thawFor_15 : decode cX6_thawFor 15 = .ok (.getfield 11, 3) := by decide +kernel
theorem dX6_thawFor_18 : decode cX6_thawFor 18 = .ok (.astore_n 3, 1) := by decide +kernel
theorem dX6_thawFor_19 : decode cX6_thawFor 19 = .ok (.aload_n 3, 1) := by decide +kernel
theorem dX6_thawFor_20 : decode cX6_thawFor 20 = .ok (.arraylength, 1) := by decide +kernel
theorem dX6_thawFor_21 : decode cX6_thawFor 21 = .ok (.istore 4, 2) := by decide +kernel
theorem dX6_thawFor_23 : decode cX6_thawFor 23 = .ok (.iconst 0, 1) := by decide +kernel
theorem dX6_thawFor_24 : decode cX6_thawFor 24 = .ok (.istore 5, 2) := by decide +kernel
theorem dX6_thawFor_26 : decode cX6_thawFor 26 = .ok (.iload 5, 2) := by decide +kernel
theorem dX6_thawFor_28 : decode cX6_thawFor 28 = .ok (.iload 4, 2) := by decide +kernel
theorem dX6_thawFor_30 : decode cX6_thawFor 30 = .ok (.if_icmp .ge 46, 3) := by decide +kernel
theorem dX6_thawFor_33 : decode cX6_thawFor 33 = .ok (.aload_n 3, 1) := by decide +kernel
theorem dX6_thawFor_34 : decode cX6_thawFor 34 = .ok (.iload 5, 2) := by decide +kernel
theorem dX6_thawFor_36 : decode cX6_thawFor 36 = .ok (.aaload, 1) := by decide +kernel
theorem dX6_thawFor_37 : decode cX6_thawFor 37 = .ok (.astore 6, 2) := by decide +kernel
theorem dX6_thawFor_39 : decode cX6_thawFor 39 = .ok (.iconst 0, 1) := by decide +kernel
theorem dX6_thawFor_40 : decode cX6_thawFor 40 = .ok (.istore 7, 2) := by decide +kernel
theorem dX6_thawFor_42 : decode cX6_thawFor 42 = .ok (.iload 7, 2) := by decide +kernel
theorem dX6_thawFor_44 : decode cX6_thawFor 44 = .ok (.iload_n 1, 1) := by decide +kernel
theorem dX6_thawFor_45 : decode cX6_thawFor 45 = .ok (.if_icmp .ge 25, 3) := by decide +kernel
theorem dX6_thawFor_48 : decode cX6_thawFor 48 = .ok (.aload 6, 2) := by decide +kernel
theorem dX6_thawFor_50 : decode cX6_thawFor 50 = .ok (.getfield 50, 3) := by decide +kernel
theorem dX6_thawFor_53 : decode cX6_thawFor 53 = .ok (.ifCond .le 17, 3) := by decide +kernel
theorem dX6_thawFor_56 : decode cX6_thawFor 56 = .ok (.iload_n 2, 1) := by decide +kernel
theorem dX6_thawFor_57 : decode cX6_thawFor 57 = .ok (.aload 6, 2) := by decide +kernel
theorem dX6_thawFor_59 : decode cX6_thawFor 59 = .ok (.invokevirtual 53, 3) := by decide +kernel
theorem dX6_thawFor_62 : decode cX6_thawFor 62 = .ok (.iadd, 1) := by decide +kernel
theorem dX6_thawFor_63 : decode cX6_thawFor 63 = .ok (.istore_n 2, 1) := by decide +kernel
theorem dX6_thawFor_64 : decode cX6_thawFor 64 = .ok (.iinc 7 1, 3) := by decide +kernel
theorem dX6_thawFor_67 : decode cX6_thawFor 67 = .ok (.goto (-25), 3) := by decide +kernel
theorem dX6_thawFor_70 : decode cX6_thawFor 70 = .ok (.iinc 5 1, 3) := by decide +kernel
theorem dX6_thawFor_73 : decode cX6_thawFor 73 = .ok (.goto (-47), 3) := by decide +kernel
theorem dX6_thawFor_76 : decode cX6_thawFor 76 = .ok (.iload_n 2, 1) := by decide +kernel
theorem dX6_thawFor_77 : decode cX6_thawFor 77 = .ok (.ireturn, 1) := by decide +kernel
set_option maxRecDepth 20000 in
theorem ggX6_cutIn_X6_cellAt : GoodIn wsX6_cutIn wsX6_cellAt := goodIn_r _ [5, 6, 7, 8, 9, 29, 30, 31] (by decide +kernel) (by decide +kernel)
set_option maxRecDepth 20000 in
theorem gX6_cutIn_X6_cellAt : GoodIn wsX6_cutIn (wsV RX6 34 RX6 yX6_cellAt wsX6_cellAt) := goodIn_app (goodIn_of _ (by decide +kernel)) ggX6_cutIn_X6_cellAt
set_option maxRecDepth 20000 in
theorem ggX6_cutIn_X11_within : GoodIn wsX6_cutIn wsX11_within := goodIn_r _ [9] (by decide +kernel) (by decide +kernel)
set_option maxRecDepth 20000 in
theorem gX6_cutIn_X11_within_n22 : GoodIn wsX6_cutIn (wsX11_within) := ggX6_cutIn_X11_within
set_option maxRecDepth 20000 in
theorem ggX6_cutIn_X2_cutOff : GoodIn wsX6_cutIn wsX2_cutOff := goodIn_r _ [14, 15, 16, 17, 18, 19, 20, 21, 22, 23, 13, 24, 25, 26, 27, 28, 32, 33, 34, 35, 36, 37, 38] (by decide +kernel) (by decide +kernel)
set_option maxRecDepth 20000 in
theorem gX6_cutIn_X2_cutOff : GoodIn wsX6_cutIn (wsV RX6 57 RX2 yX2_cutOff wsX2_cutOff) := goodIn_app (goodIn_of _ (by decide +kernel)) ggX6_cutIn_X2_cutOff
theorem dX6_cutIn_0 : decode cX6_cutIn 0 = .ok (.aload_n 0, 1) := by decide +kernel
theorem dX6_cutIn_1 : decode cX6_cutIn 1 = .ok (.iload_n 1, 1) := by decide +kernel
theorem dX6_cutIn_2 : decode cX6_cutIn 2 = .ok (.invokevirtual 34, 3) := by decide +kernel
theorem dX6_cutIn_5 : decode cX6_cutIn 5 = .ok (.astore_n 3, 1) := by decide +kernel
theorem dX6_cutIn_6 : decode cX6_cutIn 6 = .ok (.aload_n 3, 1) := by decide +kernel
theorem dX6_cutIn_7 : decode cX6_cutIn 7 = .ok (.ifnull 13, 3) := by decide +kernel
theorem dX6_cutIn_10 : decode cX6_cutIn 10 = .ok (.iload_n 2, 1) := by decide +kernel
theorem dX6_cutIn_11 : decode cX6_cutIn 11 = .ok (.iconst 1, 1) := by decide +kernel
theorem dX6_cutIn_12 : decode cX6_cutIn 12 = .ok (.bipush 99, 2) := by decide +kernel
theorem dX6_cutIn_14 : decode cX6_cutIn 14 = .ok (.invokestatic 22, 3) := by decide +kernel
theorem dX6_cutIn_17 : decode cX6_cutIn 17 = .ok (.ifCond .ne 7, 3) := by decide +kernel
theorem dX6_cutIn_20 : decode cX6_cutIn 20 = .ok (.iconst (-1), 1) := by decide +kernel
theorem dX6_cutIn_21 : decode cX6_cutIn 21 = .ok (.goto 8, 3) := by decide +kernel
theorem dX6_cutIn_24 : decode cX6_cutIn 24 = .ok (.aload_n 3, 1) := by decide +kernel
theorem dX6_cutIn_25 : decode cX6_cutIn 25 = .ok (.iload_n 2, 1) := by decide +kernel
theorem dX6_cutIn_26 : decode cX6_cutIn 26 = .ok (.invokevirtual 57, 3) := by decide +kernel
theorem dX6_cutIn_29 : decode cX6_cutIn 29 = .ok (.ireturn, 1) := by decide +kernel
theorem dX6_driftOn_0 : decode cX6_driftOn 0 = .ok (.aload_n 0, 1) := by decide +kernel
theorem dX6_driftOn_1 : decode cX6_driftOn 1 = .ok (.getfield 11, 3) := by decide +kernel
theorem dX6_driftOn_4 : decode cX6_driftOn 4 = .ok (.iconst 5, 1) := by decide +kernel
theorem dX6_driftOn_5 : decode cX6_driftOn 5 = .ok (.aaload, 1) := by decide +kernel
theorem dX6_driftOn_6 : decode cX6_driftOn 6 = .ok (.astore_n 1, 1) := by decide +kernel
theorem dX6_driftOn_7 : decode cX6_driftOn 7 = .ok (.iconst 5, 1) := by decide +kernel
theorem dX6_driftOn_8 : decode cX6_driftOn 8 = .ok (.istore_n 2, 1) := by decide +kernel
theorem dX6_driftOn_9 : decode cX6_driftOn 9 = .ok (.iload_n 2, 1) := by decide +kernel
theorem dX6_driftOn_10 : decode cX6_driftOn 10 = .ok (.ifCond .le 23, 3) := by decide +kernel
theorem dX6_driftOn_13 : decode cX6_driftOn 13 = .ok (.aload_n 0, 1) := by decide +kernel
theorem dX6_driftOn_14 : decode cX6_driftOn 14 = .ok (.getfield 11, 3) := by decide +kernel
theorem dX6_driftOn_17 : decode cX6_driftOn 17 = .ok (.iload_n 2, 1) := by decide +kernel
theorem dX6_driftOn_18 : decode cX6_driftOn 18 = .ok (.aload_n 0, 1) := by decide +kernel
theorem dX6_driftOn_19 : decode cX6_driftOn 19 = .ok (.getfield 11, 3) := by decide +kernel
theorem dX6_driftOn_22 : decode cX6_driftOn 22 = .ok (.iload_n 2, 1) := by decide +kernel
theorem dX6_driftOn_23 : decode cX6_driftOn 23 = .ok (.iconst 1, 1) := by decide +kernel
theorem dX6_driftOn_24 : decode cX6_driftOn 24 = .ok (.isub, 1) := by decide +kernel
theorem dX6_driftOn_25 : decode cX6_driftOn 25 = .ok (.aaload, 1) := by decide +kernel
theorem dX6_driftOn_26 : decode cX6_driftOn 26 = .ok (.aastore, 1) := by decide +kernel
theorem dX6_driftOn_27 : decode cX6_driftOn 27 = .ok (.iinc 2 (-1), 3) := by decide +kernel
theorem dX6_driftOn_30 : decode cX6_driftOn 30 = .ok (.goto (-21), 3) := by decide +kernel
theorem dX6_driftOn_33 : decode cX6_driftOn 33 = .ok (.aload_n 0, 1) := by decide +kernel
theorem dX6_driftOn_34 : decode cX6_driftOn 34 = .ok (.getfield 11, 3) := by decide +kernel
theorem dX6_driftOn_37 : decode cX6_driftOn 37 = .ok (.iconst 0, 1) := by decide +kernel
theorem dX6_driftOn_38 : decode cX6_driftOn 38 = .ok (.aload_n 1, 1) := by decide +kernel
theorem dX6_driftOn_39 : decode cX6_driftOn 39 = .ok (.aastore, 1) := by decide +kernel
theorem dX6_driftOn_40 : decode cX6_driftOn 40 = .ok (.aload_n 1, 1) := by decide +kernel
theorem dX6_driftOn_41 : decode cX6_driftOn 41 = .ok (.getfield 50, 3) := by decide +kernel
theorem dX6_driftOn_44 : decode cX6_driftOn 44 = .ok (.ireturn, 1) := by decide +kernel
theorem dX6_nextWinter_0 : decode cX6_nextWinter 0 = .ok (.aload_n 0, 1) := by decide +kernel
theorem dX6_nextWinter_1 : decode cX6_nextWinter 1 = .ok (.getfield 26, 3) := by decide +kernel
theorem dX6_nextWinter_4 : decode cX6_nextWinter 4 = .ok (.bipush 99, 2) := by decide +kernel
theorem dX6_nextWinter_6 : decode cX6_nextWinter 6 = .ok (.if_icmp .lt 6, 3) := by decide +kernel
theorem dX6_nextWinter_9 : decode cX6_nextWinter 9 = .ok (.bipush (-2), 2) := by decide +kernel
theorem dX6_nextWinter_11 : decode cX6_nextWinter 11 = .ok (.ireturn, 1) := by decide +kernel
theorem dX6_nextWinter_12 : decode cX6_nextWinter 12 = .ok (.aload_n 0, 1) := by decide +kernel
theorem dX6_nextWinter_13 : decode cX6_nextWinter 13 = .ok (.dup, 1) := by decide +kernel
theorem dX6_nextWinter_14 : decode cX6_nextWinter 14 = .ok (.getfield 26, 3) := by decide +kernel
theorem dX6_nextWinter_17 : decode cX6_nextWinter 17 = .ok (.iconst 1, 1) := by decide +kernel
theorem dX6_nextWinter_18 : decode cX6_nextWinter 18 = .ok (.iadd, 1) := by decide +kernel
theorem dX6_nextWinter_19 : decode cX6_nextWinter 19 = .ok (.putfield 26, 3) := by decide +kernel
theorem dX6_nextWinter_22 : decode cX6_nextWinter 22 = .ok (.aload_n 0, 1) := by decide +kernel
theorem dX6_nextWinter_23 : decode cX6_nextWinter 23 = .ok (.getfield 26, 3) := by decide +kernel
theorem dX6_nextWinter_26 : decode cX6_nextWinter 26 = .ok (.ireturn, 1) := by decide +kernel
theorem dX6_allLayers_0 : decode cX6_allLayers 0 = .ok (.iconst 0, 1) := by decide +kernel
theorem dX6_allLayers_1 : decode cX6_allLayers 1 = .ok (.istore_n 1, 1) := by decide +kernel
theorem dX6_allLayers_2 : decode cX6_allLayers 2 = .ok (.aload_n 0, 1) := by decide +kernel
theorem dX6_allLayers_3 : decode cX6_allLayers 3 = .ok (.getfield 11, 3) := by decide +kernel
theorem dX6_allLayers_6 : decode cX6_allLayers 6 = .ok (.astore_n 2, 1) := by decide +kernel
theorem dX6_allLayers_7 : decode cX6_allLayers 7 = .ok (.aload_n 2, 1) := by decide +kernel
theorem dX6_allLayers_8 : decode cX6_allLayers 8 = .ok (.arraylength, 1) := by decide +kernel
theorem dX6_allLayers_9 : decode cX6_allLayers 9 = .ok (.istore_n 3, 1) := by decide +kernel
theorem dX6_allLayers_10 : decode cX6_allLayers 10 = .ok (.iconst 0, 1) := by decide +kernel
theorem dX6_allLayers_11 : decode cX6_allLayers 11 = .ok (.istore 4, 2) := by decide +kernel
theorem dX6_allLayers_13 : decode cX6_allLayers 13 = .ok (.iload 4, 2) := by decide +kernel
theorem dX6_allLayers_15 : decode cX6_allLayers 15 = .ok (.iload_n 3, 1) := by decide +kernel
theorem dX6_allLayers_16 : decode cX6_allLayers 16 = .ok (.if_icmp .ge 23, 3) := by decide +kernel
theorem dX6_allLayers_19 : decode cX6_allLayers 19 = .ok (.aload_n 2, 1) := by decide +kernel
theorem dX6_allLayers_20 : decode cX6_allLayers 20 = .ok (.iload 4, 2) := by decide +kernel
theorem dX6_allLayers_22 : decode cX6_allLayers 22 = .ok (.aaload, 1) := by decide +kernel
theorem dX6_allLayers_23 : decode cX6_allLayers 23 = .ok (.astore 5, 2) := by decide +kernel
theorem dX6_allLayers_25 : decode cX6_allLayers 25 = .ok (.iload_n 1, 1) := by decide +kernel
theorem dX6_allLayers_26 : decode cX6_allLayers 26 = .ok (.aload 5, 2) := by decide +kernel
theorem dX6_allLayers_28 : decode cX6_allLayers 28 = .ok (.getfield 50, 3) := by decide +kernel
theorem dX6_allLayers_31 : decode cX6_allLayers 31 = .ok (.iadd, 1) := by decide +kernel
theorem dX6_allLayers_32 : decode cX6_allLayers 32 = .ok (.istore_n 1, 1) := by decide +kernel
theorem dX6_allLayers_33 : decode cX6_allLayers 33 = .ok (.iinc 4 1, 3) := by decide +kernel
theorem dX6_allLayers_36 : decode cX6_allLayers 36 = .ok (.goto (-23), 3) := by decide +kernel
theorem dX6_allLayers_39 : decode cX6_allLayers 39 = .ok (.iload_n 1, 1) := by decide +kernel
theorem dX6_allLayers_40 : decode cX6_allLayers 40 = .ok (.ireturn, 1) := by decide +kernel
set_option maxRecDepth 20000 in
theorem ggX6_allIce_X2_ice : GoodIn wsX6_allIce wsX2_ice := goodIn_r _ [6, 7, 8, 9, 5, 10, 11, 12, 13, 14, 15, 16, 17, 18, 19, 20, 24, 25, 26, 27, 28, 29, 30] (by decide +kernel) (by decide +kernel)
set_option maxRecDepth 20000 in
theorem gX6_allIce_X2_ice : GoodIn wsX6_allIce (wsV RX6 61 RX2 yX2_ice wsX2_ice) := goodIn_app (goodIn_of _ (by decide +kernel)) ggX6_allIce_X2_ice
theorem dX6_allIce_0 : decode cX6_allIce 0 = .ok (.iconst 0, 1) := by decide +kernel
theorem dX6_allIce_1 : decode cX6_allIce 1 = .ok (.istore_n 1, 1) := by decide +kernel
theorem dX6_allIce_2 : decode cX6_allIce 2 = .ok (.aload_n 0, 1) := by decide +kernel
theorem dX6_allIce_3 : decode cX6_allIce 3 = .ok (.getfield 11, 3) := by decide +kernel
theorem dX6_allIce_6 : decode cX6_allIce 6 = .ok (.astore_n 2, 1) := by decide +kernel
theorem dX6_allIce_7 : decode cX6_allIce 7 = .ok (.aload_n 2, 1) := by decide +kernel
theorem dX6_allIce_8 : decode cX6_allIce 8 = .ok (.arraylength, 1) := by decide +kernel
theorem dX6_allIce_9 : decode cX6_allIce 9 = .ok (.istore_n 3, 1) := by decide +kernel
theorem dX6_allIce_10 : decode cX6_allIce 10 = .ok (.iconst 0, 1) := by decide +kernel
theorem dX6_allIce_11 : decode cX6_allIce 11 = .ok (.istore 4, 2) := by decide +kernel
theorem dX6_allIce_13 : decode cX6_allIce 13 = .ok (.iload 4, 2) := by decide +kernel
theorem dX6_allIce_15 : decode cX6_allIce 15 = .ok (.iload_n 3, 1) := by decide +kernel
theorem dX6_allIce_16 : decode cX6_allIce 16 = .ok (.if_icmp .ge 23, 3) := by decide +kernel
theorem dX6_allIce_19 : decode cX6_allIce 19 = .ok (.aload_n 2, 1) := by decide +kernel
theorem dX6_allIce_20 : decode cX6_allIce 20 = .ok (.iload 4, 2) := by decide +kernel
theorem dX6_allIce_22 : decode cX6_allIce 22 = .ok (.aaload, 1) := by decide +kernel
theorem dX6_allIce_23 : decode cX6_allIce 23 = .ok (.astore 5, 2) := by decide +kernel
theorem dX6_allIce_25 : decode cX6_allIce 25 = .ok (.iload_n 1, 1) := by decide +kernel
theorem dX6_allIce_26 : decode cX6_allIce 26 = .ok (.aload 5, 2) := by decide +kernel
theorem dX6_allIce_28 : decode cX6_allIce 28 = .ok (.invokevirtual 61, 3) := by decide +kernel
theorem dX6_allIce_31 : decode cX6_allIce 31 = .ok (.iadd, 1) := by decide +kernel
theorem dX6_allIce_32 : decode cX6_allIce 32 = .ok (.istore_n 1, 1) := by decide +kernel
theorem dX6_allIce_33 : decode cX6_allIce 33 = .ok (.iinc 4 1, 3) := by decide +kernel
theorem dX6_allIce_36 : decode cX6_allIce 36 = .ok (.goto (-23), 3) := by decide +kernel
theorem dX6_allIce_39 : decode cX6_allIce 39 = .ok (.iload_n 1, 1) := by decide +kernel
theorem dX6_allIce_40 : decode cX6_allIce 40 = .ok (.ireturn, 1) := by decide +kernel
set_option maxRecDepth 20000 in
theorem ggX6_allReadable_X2_readableLayers : GoodIn wsX6_allReadable wsX2_readableLayers := goodIn_r _ [6, 7, 8, 9, 10, 5, 11, 12, 13, 14, 15, 16, 17, 18, 19, 20, 21, 22, 23, 24, 25, 26, 27, 28, 29, 33, 34, 35, 36, 37, 38, 39] (by decide +kernel) (by decide +kernel)
set_option maxRecDepth 20000 in
theorem gX6_allReadable_X2_readableLayers : GoodIn wsX6_allReadable (wsV RX6 64 RX2 yX2_readableLayers wsX2_readableLayers) := goodIn_app (goodIn_of _ (by decide +kernel)) ggX6_allReadable_X2_readableLayers
theorem dX6_allReadable_0 : decode cX6_allReadable 0 = .ok (.iconst 0, 1) := by decide +kernel
theorem dX6_allReadable_1 : decode cX6_allReadable 1 = .ok (.istore_n 1, 1) := by decide +kernel
theorem dX6_allReadable_2 : decode cX6_allReadable 2 = .ok (.aload_n 0, 1) := by decide +kernel
theorem dX6_allReadable_3 : decode cX6_allReadable 3 = .ok (.getfield 11, 3) := by decide +kernel
theorem dX6_allReadable_6 : decode cX6_allReadable 6 = .ok (.astore_n 2, 1) := by decide +kernel
theorem dX6_allReadable_7 : decode cX6_allReadable 7 = .ok (.aload_n 2, 1) := by decide +kernel
theorem dX6_allReadable_8 : decode cX6_allReadable 8 = .ok (.arraylength, 1) := by decide +kernel
theorem dX6_allReadable_9 : decode cX6_allReadable 9 = .ok (.istore_n 3, 1) := by decide +kernel
theorem dX6_allReadable_10 : decode cX6_allReadable 10 = .ok (.iconst 0, 1) := by decide +kernel
theorem dX6_allReadable_11 : decode cX6_allReadable 11 = .ok (.istore 4, 2) := by decide +kernel
theorem dX6_allReadable_13 : decode cX6_allReadable 13 = .ok (.iload 4, 2) := by decide +kernel
theorem dX6_allReadable_15 : decode cX6_allReadable 15 = .ok (.iload_n 3, 1) := by decide +kernel
theorem dX6_allReadable_16 : decode cX6_allReadable 16 = .ok (.if_icmp .ge 23, 3) := by decide +kernel
theorem dX6_allReadable_19 : decode cX6_allReadable 19 = .ok (.aload_n 2, 1) := by decide +kernel
theorem dX6_allReadable_20 : decode cX6_allReadable 20 = .ok (.iload 4, 2) := by decide +kernel
theorem dX6_allReadable_22 : decode cX6_allReadable 22 = .ok (.aaload, 1) := by decide +kernel
theorem dX6_allReadable_23 : decode cX6_allReadable 23 = .ok (.astore 5, 2) := by decide +kernel
theorem dX6_allReadable_25 : decode cX6_allReadable 25 = .ok (.iload_n 1, 1) := by decide +kernel
theorem dX6_allReadable_26 : decode cX6_allReadable 26 = .ok (.aload 5, 2) := by decide +kernel
theorem dX6_allReadable_28 : decode cX6_allReadable 28 = .ok (.invokevirtual 64, 3) := by decide +kernel
theorem dX6_allReadable_31 : decode cX6_allReadable 31 = .ok (.iadd, 1) := by decide +kernel
theorem dX6_allReadable_32 : decode cX6_allReadable 32 = .ok (.istore_n 1, 1) := by decide +kernel
theorem dX6_allReadable_33 : decode cX6_allReadable 33 = .ok (.iinc 4 1, 3) := by decide +kernel
theorem dX6_allReadable_36 : decode cX6_allReadable 36 = .ok (.goto (-23), 3) := by decide +kernel
theorem dX6_allReadable_39 : decode cX6_allReadable 39 = .ok (.iload_n 1, 1) := by decide +kernel
theorem dX6_allReadable_40 : decode cX6_allReadable 40 = .ok (.ireturn, 1) := by decide +kernel
set_option maxRecDepth 20000 in
theorem ggX6_allOaths_X2_oaths : GoodIn wsX6_allOaths wsX2_oaths := goodIn_r _ [6, 7, 8, 9, 10, 5, 11, 12, 13, 14, 15, 16, 20, 21, 22, 23, 24, 25, 26] (by decide +kernel) (by decide +kernel)
set_option maxRecDepth 20000 in
theorem gX6_allOaths_X2_oaths : GoodIn wsX6_allOaths (wsV RX6 67 RX2 yX2_oaths wsX2_oaths) := goodIn_app (goodIn_of _ (by decide +kernel)) ggX6_allOaths_X2_oaths
theorem dX6_allOaths_0 : decode cX6_allOaths 0 = .ok (.iconst 0, 1) := by decide +kernel
theorem dX6_allOaths_1 : decode cX6_allOaths 1 = .ok (.istore_n 1, 1) := by decide +kernel
theorem dX6_allOaths_2 : decode cX6_allOaths 2 = .ok (.aload_n 0, 1) := by decide +kernel
theorem dX6_allOaths_3 : decode cX6_allOaths 3 = .ok (.getfield 11, 3) := by decide +kernel
theorem dX6_allOaths_6 : decode cX6_allOaths 6 = .ok (.astore_n 2, 1) := by decide +kernel
theorem dX6_allOaths_7 : decode cX6_allOaths 7 = .ok (.aload_n 2, 1) := by decide +kernel
theorem dX6_allOaths_8 : decode cX6_allOaths 8 = .ok (.arraylength, 1) := by decide +kernel
theorem dX6_allOaths_9 : decode cX6_allOaths 9 = .ok (.istore_n 3, 1) := by decide +kernel
theorem dX6_allOaths_10 : decode cX6_allOaths 10 = .ok (.iconst 0, 1) := by decide +kernel
theorem dX6_allOaths_11 : decode cX6_allOaths 11 = .ok (.istore 4, 2) := by decide +kernel
theorem dX6_allOaths_13 : decode cX6_allOaths 13 = .ok (.iload 4, 2) := by decide +kernel
theorem dX6_allOaths_15 : decode cX6_allOaths 15 = .ok (.iload_n 3, 1) := by decide +kernel
theorem dX6_allOaths_16 : decode cX6_allOaths 16 = .ok (.if_icmp .ge 23, 3) := by decide +kernel
theorem dX6_allOaths_19 : decode cX6_allOaths 19 = .ok (.aload_n 2, 1) := by decide +kernel
theorem dX6_allOaths_20 : decode cX6_allOaths 20 = .ok (.iload 4, 2) := by decide +kernel
theorem dX6_allOaths_22 : decode cX6_allOaths 22 = .ok (.aaload, 1) := by decide +kernel
theorem dX6_allOaths_23 : decode cX6_allOaths 23 = .ok (.astore 5, 2) := by decide +kernel
theorem dX6_allOaths_25 : decode cX6_allOaths 25 = .ok (.iload_n 1, 1) := by decide +kernel
theorem dX6_allOaths_26 : decode cX6_allOaths 26 = .ok (.aload 5, 2) := by decide +kernel
theorem dX6_allOaths_28 : decode cX6_allOaths 28 = .ok (.invokevirtual 67, 3) := by decide +kernel
theorem dX6_allOaths_31 : decode cX6_allOaths 31 = .ok (.ior, 1) := by decide +kernel
theorem dX6_allOaths_32 : decode cX6_allOaths 32 = .ok (.istore_n 1, 1) := by decide +kernel
theorem dX6_allOaths_33 : decode cX6_allOaths 33 = .ok (.iinc 4 1, 3) := by decide +kernel
theorem dX6_allOaths_36 : decode cX6_allOaths 36 = .ok (.goto (-23), 3) := by decide +kernel
theorem dX6_allOaths_39 : decode cX6_allOaths 39 = .ok (.iload_n 1, 1) := by decide +kernel
theorem dX6_allOaths_40 : decode cX6_allOaths 40 = .ok (.ireturn, 1) := by decide +kernel
set_option maxRecDepth 20000 in
theorem ggX6_allUnordered_X2_unorderedPairs : GoodIn wsX6_allUnordered wsX2_unorderedPairs := goodIn_r _ [6, 7, 8, 9, 10, 5, 11, 12, 13, 14, 15, 16, 20, 21, 22, 23, 24, 25, 26] (by decide +kernel) (by decide +kernel)
set_option maxRecDepth 20000 in
theorem gX6_allUnordered_X2_unorderedPairs : GoodIn wsX6_allUnordered (wsV RX6 70 RX2 yX2_unorderedPairs wsX2_unorderedPairs) := goodIn_app (goodIn_of _ (by decide +kernel)) ggX6_allUnordered_X2_unorderedPairs
theorem dX6_allUnordered_0 : decode cX6_allUnordered 0 = .ok (.iconst 0, 1) := by decide +kernel
theorem dX6_allUnordered_1 : decode cX6_allUnordered 1 = .ok (.istore_n 1, 1) := by decide +kernel
theorem dX6_allUnordered_2 : decode cX6_allUnordered 2 = .ok (.aload_n 0, 1) := by decide +kernel
theorem dX6_allUnordered_3 : decode cX6_allUnordered 3 = .ok (.getfield 11, 3) := by decide +kernel
theorem dX6_allUnordered_6 : decode cX6_allUnordered 6 = .ok (.astore_n 2, 1) := by decide +kernel
theorem dX6_allUnordered_7 : decode cX6_allUnordered 7 = .ok (.aload_n 2, 1) := by decide +kernel
theorem dX6_allUnordered_8 : decode cX6_allUnordered 8 = .ok (.arraylength, 1) := by decide +kernel
theorem dX6_allUnordered_9 : decode cX6_allUnordered 9 = .ok (.istore_n 3, 1) := by decide +kernel
theorem dX6_allUnordered_10 : decode cX6_allUnordered 10 = .ok (.iconst 0, 1) := by decide +kernel
theorem dX6_allUnordered_11 : decode cX6_allUnordered 11 = .ok (.istore 4, 2) := by decide +kernel
theorem dX6_allUnordered_13 : decode cX6_allUnordered 13 = .ok (.iload 4, 2) := by decide +kernel
theorem dX6_allUnordered_15 : decode cX6_allUnordered 15 = .ok (.iload_n 3, 1) := by decide +kernel
theorem dX6_allUnordered_16 : decode cX6_allUnordered 16 = .ok (.if_icmp .ge 23, 3) := by decide +kernel
theorem dX6_allUnordered_19 : decode cX6_allUnordered 19 = .ok (.aload_n 2, 1) := by decide +kernel
theorem dX6_allUnordered_20 : decode cX6_allUnordered 20 = .ok (.iload 4, 2) := by decide +kernel
theorem dX6_allUnordered_22 : decode cX6_allUnordered 22 = .ok (.aaload, 1) := by decide +kernel
theorem dX6_allUnordered_23 : decode cX6_allUnordered 23 = .ok (.astore 5, 2) := by decide +kernel
theorem dX6_allUnordered_25 : decode cX6_allUnordered 25 = .ok (.iload_n 1, 1) := by decide +kernel
theorem dX6_allUnordered_26 : decode cX6_allUnordered 26 = .ok (.aload 5, 2) := by decide +kernel
theorem dX6_allUnordered_28 : decode cX6_allUnordered 28 = .ok (.invokevirtual 70, 3) := by decide +kernel
theorem dX6_allUnordered_31 : decode cX6_allUnordered 31 = .ok (.iadd, 1) := by decide +kernel
theorem dX6_allUnordered_32 : decode cX6_allUnordered 32 = .ok (.istore_n 1, 1) := by decide +kernel
theorem dX6_allUnordered_33 : decode cX6_allUnordered 33 = .ok (.iinc 4 1, 3) := by decide +kernel
theorem dX6_allUnordered_36 : decode cX6_allUnordered 36 = .ok (.goto (-23), 3) := by decide +kernel
theorem dX6_allUnordered_39 : decode cX6_allUnordered 39 = .ok (.iload_n 1, 1) := by decide +kernel
theorem dX6_allUnordered_40 : decode cX6_allUnordered 40 = .ok (.ireturn, 1) := by decide +kernel
set_option maxRecDepth 20000 in
theorem ggX6_latestOf_X2_oathAt : GoodIn wsX6_latestOf wsX2_oathAt := goodIn_r _ [6, 7, 8, 9, 10, 5, 11, 12, 21, 22, 23, 24, 25, 26, 27] (by decide +kernel) (by decide +kernel)
set_option maxRecDepth 20000 in
theorem gX6_latestOf_X2_oathAt : GoodIn wsX6_latestOf (wsV RX6 73 RX2 yX2_oathAt wsX2_oathAt) := goodIn_app (goodIn_of _ (by decide +kernel)) ggX6_latestOf_X2_oathAt
set_option maxRecDepth 20000 in
theorem ggX6_latestOf_X2_winterAt : GoodIn wsX6_latestOf wsX2_winterAt := goodIn_r _ [16, 17, 8, 9, 10, 5, 11, 12, 21, 22, 23, 24, 25, 26, 27] (by decide +kernel) (by decide +kernel)
set_option maxRecDepth 20000 in
theorem gX6_latestOf_X2_winterAt : GoodIn wsX6_latestOf (wsV RX6 76 RX2 yX2_winterAt wsX2_winterAt) := goodIn_app (goodIn_of _ (by decide +kernel)) ggX6_latestOf_X2_winterAt
theorem dX6_latestOf_0 : decode cX6_latestOf 0 = .ok (.bipush (-4), 2) := by decide +kernel
theorem dX6_latestOf_2 : decode cX6_latestOf 2 = .ok (.istore_n 2, 1) := by decide +kernel
theorem dX6_latestOf_3 : decode cX6_latestOf 3 = .ok (.iconst (-1), 1) := by decide +kernel
theorem dX6_latestOf_4 : decode cX6_latestOf 4 = .ok (.istore_n 3, 1) := by decide +kernel
theorem dX6_latestOf_5 : decode cX6_latestOf 5 = .ok (.iconst 0, 1) := by decide +kernel
theorem dX6_latestOf_6 : decode cX6_latestOf 6 = .ok (.istore 4, 2) := by decide +kernel
theorem dX6_latestOf_8 : decode cX6_latestOf 8 = .ok (.iload 4, 2) := by decide +kernel
theorem dX6_latestOf_10 : decode cX6_latestOf 10 = .ok (.bipush 6, 2) := by decide +kernel
theorem dX6_latestOf_12 : decode cX6_latestOf 12 = .ok (.if_icmp .ge 77, 3) := by decide +kernel
theorem dX6_latestOf_15 : decode cX6_latestOf 15 = .ok (.aload_n 0, 1) := by decide +kernel
theorem dX6_latestOf_16 : decode cX6_latestOf 16 = .ok (.getfield 11, 3) := by decide +kernel
theorem dX6_latestOf_19 : decode cX6_latestOf 19 = .ok (.iload 4, 2) := by decide +kernel
theorem dX6_latestOf_21 : decode cX6_latestOf 21 = .ok (.aaload, 1) := by decide +kernel
theorem dX6_latestOf_22 : decode cX6_latestOf 22 = .ok (.astore 5, 2) := by decide +kernel
theorem dX6_latestOf_24 : decode cX6_latestOf 24 = .ok (.aload 5, 2) := by decide +kernel
theorem dX6_latestOf_26 : decode cX6_latestOf 26 = .ok (.getfield 50, 3) := by decide +kernel
theorem dX6_latestOf_29 : decode cX6_latestOf 29 = .ok (.iconst 1, 1) := by decide +kernel
theorem dX6_latestOf_30 : decode cX6_latestOf 30 = .ok (.isub, 1) := by decide +kernel
theorem dX6_latestOf_31 : decode cX6_latestOf 31 = .ok (.istore 6, 2) := by decide +kernel
theorem dX6_latestOf_33 : decode cX6_latestOf 33 = .ok (.iload 6, 2) := by decide +kernel
theorem dX6_latestOf_35 : decode cX6_latestOf 35 = .ok (.ifCond .lt 48, 3) := by decide +kernel
theorem dX6_latestOf_38 : decode cX6_latestOf 38 = .ok (.aload 5, 2) := by decide +kernel
theorem dX6_latestOf_40 : decode cX6_latestOf 40 = .ok (.iload 6, 2) := by decide +kernel
theorem dX6_latestOf_42 : decode cX6_latestOf 42 = .ok (.invokevirtual 73, 3) := by decide +kernel
theorem dX6_latestOf_45 : decode cX6_latestOf 45 = .ok (.iload_n 1, 1) := by decide +kernel
theorem dX6_latestOf_46 : decode cX6_latestOf 46 = .ok (.if_icmp .ne 31, 3) := by decide +kernel
theorem dX6_latestOf_49 : decode cX6_latestOf 49 = .ok (.aload 5, 2) := by decide +kernel
theorem dX6_latestOf_51 : decode cX6_latestOf 51 = .ok (.iload 6, 2) := by decide +kernel
theorem dX6_latestOf_53 : decode cX6_latestOf 53 = .ok (.invokevirtual 76, 3) := by decide +kernel
theorem dX6_latestOf_56 : decode cX6_latestOf 56 = .ok (.iload_n 3, 1) := by decide +kernel
theorem dX6_latestOf_57 : decode cX6_latestOf 57 = .ok (.if_icmp .le 20, 3) := by decide +kernel
theorem dX6_latestOf_60 : decode cX6_latestOf 60 = .ok (.bipush 10, 2) := by decide +kernel
theorem dX6_latestOf_62 : decode cX6_latestOf 62 = .ok (.iload 4, 2) := by decide +kernel
theorem dX6_latestOf_64 : decode cX6_latestOf 64 = .ok (.imul, 1) := by decide +kernel
theorem dX6_latestOf_65 : decode cX6_latestOf 65 = .ok (.iload 6, 2) := by decide +kernel
theorem dX6_latestOf_67 : decode cX6_latestOf 67 = .ok (.iadd, 1) := by decide +kernel
theorem dX6_latestOf_68 : decode cX6_latestOf 68 = .ok (.istore_n 2, 1) := by decide +kernel
theorem dX6_latestOf_69 : decode cX6_latestOf 69 = .ok (.aload 5, 2) := by decide +kernel
theorem dX6_latestOf_71 : decode cX6_latestOf 71 = .ok (.iload 6, 2) := by decide +kernel
theorem dX6_latestOf_73 : decode cX6_latestOf 73 = .ok (.invokevirtual 76, 3) := by decide +kernel
theorem dX6_latestOf_76 : decode cX6_latestOf 76 = .ok (.istore_n 3, 1) := by decide +kernel
theorem dX6_latestOf_77 : decode cX6_latestOf 77 = .ok (.iinc 6 (-1), 3) := by decide +kernel
theorem dX6_latestOf_80 : decode cX6_latestOf 80 = .ok (.goto (-47), 3) := by decide +kernel
theorem dX6_latestOf_83 : decode cX6_latestOf 83 = .ok (.iinc 4 1, 3) := by decide +kernel
theorem dX6_latestOf_86 : decode cX6_latestOf 86 = .ok (.goto (-78), 3) := by decide +kernel
theorem dX6_latestOf_89 : decode cX6_latestOf 89 = .ok (.iload_n 2, 1) := by decide +kernel
theorem dX6_latestOf_90 : decode cX6_latestOf 90 = .ok (.ireturn, 1) := by decide +kernel
set_option maxRecDepth 20000 in
theorem ggX6_tellSeen_X2_oathsSeen : GoodIn wsX6_tellSeen wsX2_oathsSeen := goodIn_r _ [6, 7, 8, 9, 10, 11, 12, 13, 14, 5, 15, 16, 17, 18, 19, 20, 21, 22, 23, 24, 25, 26, 27, 28, 29, 30, 34, 35, 36, 37, 38, 39, 40] (by decide +kernel) (by decide +kernel)
set_option maxRecDepth 20000 in
theorem gX6_tellSeen_X2_oathsSeen : GoodIn wsX6_tellSeen (wsV RX6 79 RX2 yX2_oathsSeen wsX2_oathsSeen) := goodIn_app (goodIn_of _ (by decide +kernel)) ggX6_tellSeen_X2_oathsSeen
theorem dX6_tellSeen_0 : decode cX6_tellSeen 0 = .ok (.iconst 0, 1) := by decide +kernel
theorem dX6_tellSeen_1 : decode cX6_tellSeen 1 = .ok (.istore_n 3, 1) := by decide +kernel
theorem dX6_tellSeen_2 : decode cX6_tellSeen 2 = .ok (.iload_n 3, 1) := by decide +kernel
theorem dX6_tellSeen_3 : decode cX6_tellSeen 3 = .ok (.bipush 6, 2) := by decide +kernel
theorem dX6_tellSeen_5 : decode cX6_tellSeen 5 = .ok (.if_icmp .ge 28, 3) := by decide +kernel
theorem dX6_tellSeen_8 : decode cX6_tellSeen 8 = .ok (.iload_n 3, 1) := by decide +kernel
theorem dX6_tellSeen_9 : decode cX6_tellSeen 9 = .ok (.aload_n 2, 1) := by decide +kernel
theorem dX6_tellSeen_10 : decode cX6_tellSeen 10 = .ok (.arraylength, 1) := by decide +kernel
theorem dX6_tellSeen_11 : decode cX6_tellSeen 11 = .ok (.if_icmp .ge 22, 3) := by decide +kernel
theorem dX6_tellSeen_14 : decode cX6_tellSeen 14 = .ok (.aload_n 2, 1) := by decide +kernel
theorem dX6_tellSeen_15 : decode cX6_tellSeen 15 = .ok (.iload_n 3, 1) := by decide +kernel
theorem dX6_tellSeen_16 : decode cX6_tellSeen 16 = .ok (.aload_n 0, 1) := by decide +kernel
theorem dX6_tellSeen_17 : decode cX6_tellSeen 17 = .ok (.getfield 11, 3) := by decide +kernel
theorem dX6_tellSeen_20 : decode cX6_tellSeen 20 = .ok (.iload_n 3, 1) := by decide +kernel
theorem dX6_tellSeen_21 : decode cX6_tellSeen 21 = .ok (.aaload, 1) := by decide +kernel
theorem dX6_tellSeen_22 : decode cX6_tellSeen 22 = .ok (.iload_n 1, 1) := by decide +kernel
theorem dX6_tellSeen_23 : decode cX6_tellSeen 23 = .ok (.invokevirtual 79, 3) := by decide +kernel
theorem dX6_tellSeen_26 : decode cX6_tellSeen 26 = .ok (.iastore, 1) := by decide +kernel
theorem dX6_tellSeen_27 : decode cX6_tellSeen 27 = .ok (.iinc 3 1, 3) := by decide +kernel
theorem dX6_tellSeen_30 : decode cX6_tellSeen 30 = .ok (.goto (-28), 3) := by decide +kernel
theorem dX6_tellSeen_33 : decode cX6_tellSeen 33 = .ok (.return_, 1) := by decide +kernel
set_option maxRecDepth 20000 in
theorem ggX6_cellsWith_X2_keepsOath : GoodIn wsX6_cellsWith wsX2_keepsOath := goodIn_r _ [6, 7, 8, 9, 10, 5, 11, 12, 13, 14, 15, 16, 17, 18, 19, 20, 21, 22, 23, 24, 25, 26, 27, 28, 29, 30, 31, 32, 33, 34, 38, 39, 40, 41, 42, 43, 44] (by decide +kernel) (by decide +kernel)
set_option maxRecDepth 20000 in
theorem gX6_cellsWith_X2_keepsOath : GoodIn wsX6_cellsWith (wsV RX6 82 RX2 yX2_keepsOath wsX2_keepsOath) := goodIn_app (goodIn_of _ (by decide +kernel)) ggX6_cellsWith_X2_keepsOath
theorem dX6_cellsWith_0 : decode cX6_cellsWith 0 = .ok (.iconst 0, 1) := by decide +kernel
theorem dX6_cellsWith_1 : decode cX6_cellsWith 1 = .ok (.istore_n 3, 1) := by decide +kernel
theorem dX6_cellsWith_2 : decode cX6_cellsWith 2 = .ok (.iconst 0, 1) := by decide +kernel
theorem dX6_cellsWith_3 : decode cX6_cellsWith 3 = .ok (.istore 4, 2) := by decide +kernel
theorem dX6_cellsWith_5 : decode cX6_cellsWith 5 = .ok (.iload 4, 2) := by decide +kernel
theorem dX6_cellsWith_7 : decode cX6_cellsWith 7 = .ok (.bipush 6, 2) := by decide +kernel
theorem dX6_cellsWith_9 : decode cX6_cellsWith 9 = .ok (.if_icmp .ge 31, 3) := by decide +kernel
theorem dX6_cellsWith_12 : decode cX6_cellsWith 12 = .ok (.aload_n 0, 1) := by decide +kernel
theorem dX6_cellsWith_13 : decode cX6_cellsWith 13 = .ok (.getfield 11, 3) := by decide +kernel
theorem dX6_cellsWith_16 : decode cX6_cellsWith 16 = .ok (.iload 4, 2) := by decide +kernel
theorem dX6_cellsWith_18 : decode cX6_cellsWith 18 = .ok (.aaload, 1) := by decide +kernel
theorem dX6_cellsWith_19 : decode cX6_cellsWith 19 = .ok (.iload_n 1, 1) := by decide +kernel
theorem dX6_cellsWith_20 : decode cX6_cellsWith 20 = .ok (.iload_n 2, 1) := by decide +kernel
theorem dX6_cellsWith_21 : decode cX6_cellsWith 21 = .ok (.invokevirtual 82, 3) := by decide +kernel
theorem dX6_cellsWith_24 : decode cX6_cellsWith 24 = .ok (.ifCond .eq 10, 3) := by decide +kernel
theorem dX6_cellsWith_27 : decode cX6_cellsWith 27 = .ok (.iload_n 3, 1) := by decide +kernel
theorem dX6_cellsWith_28 : decode cX6_cellsWith 28 = .ok (.iconst 1, 1) := by decide +kernel
theorem dX6_cellsWith_29 : decode cX6_cellsWith 29 = .ok (.iload 4, 2) := by decide +kernel
theorem dX6_cellsWith_31 : decode cX6_cellsWith 31 = .ok (.ishl, 1) := by decide +kernel
theorem dX6_cellsWith_32 : decode cX6_cellsWith 32 = .ok (.ior, 1) := by decide +kernel
theorem dX6_cellsWith_33 : decode cX6_cellsWith 33 = .ok (.istore_n 3, 1) := by decide +kernel
theorem dX6_cellsWith_34 : decode cX6_cellsWith 34 = .ok (.iinc 4 1, 3) := by decide +kernel
theorem dX6_cellsWith_37 : decode cX6_cellsWith 37 = .ok (.goto (-32), 3) := by decide +kernel
theorem dX6_cellsWith_40 : decode cX6_cellsWith 40 = .ok (.iload_n 3, 1) := by decide +kernel
theorem dX6_cellsWith_41 : decode cX6_cellsWith 41 = .ok (.ireturn, 1) := by decide +kernel
set_option maxRecDepth 20000 in
theorem ggX6_isThin_X2_winterAt : GoodIn wsX6_isThin wsX2_winterAt := goodIn_r _ [6, 7, 8, 9, 10, 5, 11, 12, 27, 28, 29, 30, 31, 32, 33] (by decide +kernel) (by decide +kernel)
set_option maxRecDepth 20000 in
theorem gX6_isThin_X2_winterAt : GoodIn wsX6_isThin (wsV RX6 76 RX2 yX2_winterAt wsX2_winterAt) := goodIn_app (goodIn_of _ (by decide +kernel)) ggX6_isThin_X2_winterAt
set_option maxRecDepth 20000 in
theorem ggX6_isThin_X2_thickAt : GoodIn wsX6_isThin wsX2_thickAt := goodIn_r _ [16, 17, 8, 9, 10, 5, 11, 12, 27, 28, 29, 30, 31, 32, 33] (by decide +kernel) (by decide +kernel)
set_option maxRecDepth 20000 in
theorem gX6_isThin_X2_thickAt : GoodIn wsX6_isThin (wsV RX6 85 RX2 yX2_thickAt wsX2_thickAt) := goodIn_app (goodIn_of _ (by decide +kernel)) ggX6_isThin_X2_thickAt
set_option maxRecDepth 20000 in
theorem ggX6_isThin_X2_lowestThickOf : GoodIn wsX6_isThin wsX2_lowestThickOf := goodIn_r _ [21, 12, 22, 3, 4, 5, 6, 7, 8, 9, 10, 11, 23, 14, 15, 16, 17, 27, 28, 29, 30, 31, 32, 33] (by decide +kernel) (by decide +kernel)
set_option maxRecDepth 20000 in
theorem gX6_isThin_X2_lowestThickOf : GoodIn wsX6_isThin (wsV RX6 88 RX2 yX2_lowestThickOf wsX2_lowestThickOf) := goodIn_app (goodIn_of _ (by decide +kernel)) ggX6_isThin_X2_lowestThickOf
theorem dX6_isThin_0 : decode cX6_isThin 0 = .ok (.aload_n 0, 1) := by decide +kernel
theorem dX6_isThin_1 : decode cX6_isThin 1 = .ok (.getfield 11, 3) := by decide +kernel
theorem dX6_isThin_4 : decode cX6_isThin 4 = .ok (.iload_n 1, 1) := by decide +kernel
theorem dX6_isThin_5 : decode cX6_isThin 5 = .ok (.aaload, 1) := by decide +kernel
theorem dX6_isThin_6 : decode cX6_isThin 6 = .ok (.astore_n 3, 1) := by decide +kernel
theorem dX6_isThin_7 : decode cX6_isThin 7 = .ok (.aload_n 0, 1) := by decide +kernel
theorem dX6_isThin_8 : decode cX6_isThin 8 = .ok (.getfield 11, 3) := by decide +kernel
theorem dX6_isThin_11 : decode cX6_isThin 11 = .ok (.iload_n 1, 1) := by decide +kernel
theorem dX6_isThin_12 : decode cX6_isThin 12 = .ok (.bipush 6, 2) := by decide +kernel
theorem dX6_isThin_14 : decode cX6_isThin 14 = .ok (.iadd, 1) := by decide +kernel
theorem dX6_isThin_15 : decode cX6_isThin 15 = .ok (.iconst 1, 1) := by decide +kernel
theorem dX6_isThin_16 : decode cX6_isThin 16 = .ok (.isub, 1) := by decide +kernel
theorem dX6_isThin_17 : decode cX6_isThin 17 = .ok (.bipush 6, 2) := by decide +kernel
theorem dX6_isThin_19 : decode cX6_isThin 19 = .ok (.irem, 1) := by decide +kernel
theorem dX6_isThin_20 : decode cX6_isThin 20 = .ok (.aaload, 1) := by decide +kernel
theorem dX6_isThin_21 : decode cX6_isThin 21 = .ok (.astore 4, 2) := by decide +kernel
theorem dX6_isThin_23 : decode cX6_isThin 23 = .ok (.aload_n 0, 1) := by decide +kernel
theorem dX6_isThin_24 : decode cX6_isThin 24 = .ok (.getfield 11, 3) := by decide +kernel
theorem dX6_isThin_27 : decode cX6_isThin 27 = .ok (.iload_n 1, 1) := by decide +kernel
theorem dX6_isThin_28 : decode cX6_isThin 28 = .ok (.iconst 1, 1) := by decide +kernel
theorem dX6_isThin_29 : decode cX6_isThin 29 = .ok (.iadd, 1) := by decide +kernel
theorem dX6_isThin_30 : decode cX6_isThin 30 = .ok (.bipush 6, 2) := by decide +kernel
theorem dX6_isThin_32 : decode cX6_isThin 32 = .ok (.irem, 1) := by decide +kernel
theorem dX6_isThin_33 : decode cX6_isThin 33 = .ok (.aaload, 1) := by decide +kernel
theorem dX6_isThin_34 : decode cX6_isThin 34 = .ok (.astore 5, 2) := by decide +kernel
theorem dX6_isThin_36 : decode cX6_isThin 36 = .ok (.aload_n 3, 1) := by decide +kernel
theorem dX6_isThin_37 : decode cX6_isThin 37 = .ok (.iload_n 2, 1) := by decide +kernel
theorem dX6_isThin_38 : decode cX6_isThin 38 = .ok (.invokevirtual 76, 3) := by decide +kernel
theorem dX6_isThin_41 : decode cX6_isThin 41 = .ok (.istore 6, 2) := by decide +kernel
theorem dX6_isThin_43 : decode cX6_isThin 43 = .ok (.aload_n 3, 1) := by decide +kernel
theorem dX6_isThin_44 : decode cX6_isThin 44 = .ok (.iload_n 2, 1) := by decide +kernel
theorem dX6_isThin_45 : decode cX6_isThin 45 = .ok (.invokevirtual 85, 3) := by decide +kernel
theorem dX6_isThin_48 : decode cX6_isThin 48 = .ok (.iconst 2, 1) := by decide +kernel
theorem dX6_isThin_49 : decode cX6_isThin 49 = .ok (.iadd, 1) := by decide +kernel
theorem dX6_isThin_50 : decode cX6_isThin 50 = .ok (.istore 7, 2) := by decide +kernel
theorem dX6_isThin_52 : decode cX6_isThin 52 = .ok (.aload 4, 2) := by decide +kernel
theorem dX6_isThin_54 : decode cX6_isThin 54 = .ok (.iload 6, 2) := by decide +kernel
theorem dX6_isThin_56 : decode cX6_isThin 56 = .ok (.invokevirtual 88, 3) := by decide +kernel
theorem dX6_isThin_59 : decode cX6_isThin 59 = .ok (.iload 7, 2) := by decide +kernel
theorem dX6_isThin_61 : decode cX6_isThin 61 = .ok (.if_icmp .lt 19, 3) := by decide +kernel
theorem dX6_isThin_64 : decode cX6_isThin 64 = .ok (.aload 5, 2) := by decide +kernel
theorem dX6_isThin_66 : decode cX6_isThin 66 = .ok (.iload 6, 2) := by decide +kernel
theorem dX6_isThin_68 : decode cX6_isThin 68 = .ok (.invokevirtual 88, 3) := by decide +kernel
theorem dX6_isThin_71 : decode cX6_isThin 71 = .ok (.iload 7, 2) := by decide +kernel
theorem dX6_isThin_73 : decode cX6_isThin 73 = .ok (.if_icmp .lt 7, 3) := by decide +kernel
theorem dX6_isThin_76 : decode cX6_isThin 76 = .ok (.iconst 1, 1) := by decide +kernel
theorem dX6_isThin_77 : decode cX6_isThin 77 = .ok (.goto 4, 3) := by decide +kernel
theorem dX6_isThin_80 : decode cX6_isThin 80 = .ok (.iconst 0, 1) := by decide +kernel
theorem dX6_isThin_81 : decode cX6_isThin 81 = .ok (.ireturn, 1) := by decide +kernel
set_option maxRecDepth 20000 in
theorem ggX6_thinLayers_X6_isThin : GoodIn wsX6_thinLayers wsX6_isThin := goodIn_r _ [6, 1, 7, 8, 9, 10, 11, 12, 13, 14, 15, 16, 17, 18, 19, 20, 21, 22, 23, 24, 25, 26, 27, 28, 29, 30, 31, 32, 33, 34, 35, 36, 37, 38] (by decide +kernel) (by decide +kernel)
set_option maxRecDepth 20000 in
theorem gX6_thinLayers_X6_isThin : GoodIn wsX6_thinLayers (wsV RX6 91 RX6 yX6_isThin wsX6_isThin) := goodIn_app (goodIn_of _ (by decide +kernel)) ggX6_thinLayers_X6_isThin
theorem dX6_thinLayers_0 : decode cX6_thinLayers 0 = .ok (.iconst 0, 1) := by decide +kernel
theorem dX6_thinLayers_1 : decode cX6_thinLayers 1 = .ok (.istore_n 1, 1) := by decide +kernel
theorem dX6_thinLayers_2 : decode cX6_thinLayers 2 = .ok (.iconst 0, 1) := by decide +kernel
theorem dX6_thinLayers_3 : decode cX6_thinLayers 3 = .ok (.istore_n 2, 1) := by decide +kernel
theorem dX6_thinLayers_4 : decode cX6_thinLayers 4 = .ok (.iload_n 2, 1) := by decide +kernel
theorem dX6_thinLayers_5 : decode cX6_thinLayers 5 = .ok (.bipush 6, 2) := by decide +kernel
theorem dX6_thinLayers_7 : decode cX6_thinLayers 7 = .ok (.if_icmp .ge 42, 3) := by decide +kernel
theorem dX6_thinLayers_10 : decode cX6_thinLayers 10 = .ok (.iconst 0, 1) := by decide +kernel
theorem dX6_thinLayers_11 : decode cX6_thinLayers 11 = .ok (.istore_n 3, 1) := by decide +kernel
theorem dX6_thinLayers_12 : decode cX6_thinLayers 12 = .ok (.iload_n 3, 1) := by decide +kernel
theorem dX6_thinLayers_13 : decode cX6_thinLayers 13 = .ok (.aload_n 0, 1) := by decide +kernel
theorem dX6_thinLayers_14 : decode cX6_thinLayers 14 = .ok (.getfield 11, 3) := by decide +kernel
theorem dX6_thinLayers_17 : decode cX6_thinLayers 17 = .ok (.iload_n 2, 1) := by decide +kernel
theorem dX6_thinLayers_18 : decode cX6_thinLayers 18 = .ok (.aaload, 1) := by decide +kernel
theorem dX6_thinLayers_19 : decode cX6_thinLayers 19 = .ok (.getfield 50, 3) := by decide +kernel
theorem dX6_thinLayers_22 : decode cX6_thinLayers 22 = .ok (.if_icmp .ge 21, 3) := by decide +kernel
theorem dX6_thinLayers_25 : decode cX6_thinLayers 25 = .ok (.aload_n 0, 1) := by decide +kernel
theorem dX6_thinLayers_26 : decode cX6_thinLayers 26 = .ok (.iload_n 2, 1) := by decide +kernel
theorem dX6_thinLayers_27 : decode cX6_thinLayers 27 = .ok (.iload_n 3, 1) := by decide +kernel
theorem dX6_thinLayers_28 : decode cX6_thinLayers 28 = .ok (.invokevirtual 91, 3) := by decide +kernel
theorem dX6_thinLayers_31 : decode cX6_thinLayers 31 = .ok (.ifCond .eq 6, 3) := by decide +kernel
theorem dX6_thinLayers_34 : decode cX6_thinLayers 34 = .ok (.iinc 1 1, 3) := by decide +kernel
theorem dX6_thinLayers_37 : decode cX6_thinLayers 37 = .ok (.iinc 3 1, 3) := by decide +kernel
theorem dX6_thinLayers_40 : decode cX6_thinLayers 40 = .ok (.goto (-28), 3) := by decide +kernel
theorem dX6_thinLayers_43 : decode cX6_thinLayers 43 = .ok (.iinc 2 1, 3) := by decide +kernel
theorem dX6_thinLayers_46 : decode cX6_thinLayers 46 = .ok (.goto (-42), 3) := by decide +kernel
theorem dX6_thinLayers_49 : decode cX6_thinLayers 49 = .ok (.iload_n 1, 1) := by decide +kernel
theorem dX6_thinLayers_50 : decode cX6_thinLayers 50 = .ok (.ireturn, 1) := by decide +kernel
set_option maxRecDepth 20000 in
theorem ggX6_firstThin_X6_isThin : GoodIn wsX6_firstThin wsX6_isThin := goodIn_r _ [6, 1, 7, 8, 9, 10, 11, 12, 13, 14, 15, 16, 17, 18, 19, 20, 21, 22, 23, 24, 25, 26, 27, 28, 29, 30, 31, 32, 33, 34, 35, 36, 37, 38] (by decide +kernel) (by decide +kernel)
set_option maxRecDepth 20000 in
theorem gX6_firstThin_X6_isThin : GoodIn wsX6_firstThin (wsV RX6 91 RX6 yX6_isThin wsX6_isThin) := goodIn_app (goodIn_of _ (by decide +kernel)) ggX6_firstThin_X6_isThin
theorem dX6_firstThin_0 : decode cX6_firstThin 0 = .ok (.iconst 0, 1) := by decide +kernel
theorem dX6_firstThin_1 : decode cX6_firstThin 1 = .ok (.istore_n 1, 1) := by decide +kernel
theorem dX6_firstThin_2 : decode cX6_firstThin 2 = .ok (.iload_n 1, 1) := by decide +kernel
theorem dX6_firstThin_3 : decode cX6_firstThin 3 = .ok (.bipush 6, 2) := by decide +kernel
theorem dX6_firstThin_5 : decode cX6_firstThin 5 = .ok (.if_icmp .ge 46, 3) := by decide +kernel
theorem dX6_firstThin_8 : decode cX6_firstThin 8 = .ok (.iconst 0, 1) := by decide +kernel
theorem dX6_firstThin_9 : decode cX6_firstThin 9 = .ok (.istore_n 2, 1) := by decide +kernel
theorem dX6_firstThin_10 : decode cX6_firstThin 10 = .ok (.iload_n 2, 1) := by decide +kernel
theorem dX6_firstThin_11 : decode cX6_firstThin 11 = .ok (.aload_n 0, 1) := by decide +kernel
theorem dX6_firstThin_12 : decode cX6_firstThin 12 = .ok (.getfield 11, 3) := by decide +kernel
theorem dX6_firstThin_15 : decode cX6_firstThin 15 = .ok (.iload_n 1, 1) := by decide +kernel
theorem dX6_firstThin_16 : decode cX6_firstThin 16 = .ok (.aaload, 1) := by decide +kernel
theorem dX6_firstThin_17 : decode cX6_firstThin 17 = .ok (.getfield 50, 3) := by decide +kernel
theorem dX6_firstThin_20 : decode cX6_firstThin 20 = .ok (.if_icmp .ge 25, 3) := by decide +kernel
theorem dX6_firstThin_23 : decode cX6_firstThin 23 = .ok (.aload_n 0, 1) := by decide +kernel
theorem dX6_firstThin_24 : decode cX6_firstThin 24 = .ok (.iload_n 1, 1) := by decide +kernel
theorem dX6_firstThin_25 : decode cX6_firstThin 25 = .ok (.iload_n 2, 1) := by decide +kernel
theorem dX6_firstThin_26 : decode cX6_firstThin 26 = .ok (.invokevirtual 91, 3) := by decide +kernel
theorem dX6_firstThin_29 : decode cX6_firstThin 29 = .ok (.ifCond .eq 10, 3) := by decide +kernel
theorem dX6_firstThin_32 : decode cX6_firstThin 32 = .ok (.bipush 10, 2) := by decide +kernel
theorem dX6_firstThin_34 : decode cX6_firstThin 34 = .ok (.iload_n 1, 1) := by decide +kernel
theorem dX6_firstThin_35 : decode cX6_firstThin 35 = .ok (.imul, 1) := by decide +kernel
theorem dX6_firstThin_36 : decode cX6_firstThin 36 = .ok (.iload_n 2, 1) := by decide +kernel
theorem dX6_firstThin_37 : decode cX6_firstThin 37 = .ok (.iadd, 1) := by decide +kernel
theorem dX6_firstThin_38 : decode cX6_firstThin 38 = .ok (.ireturn, 1) := by decide +kernel
theorem dX6_firstThin_39 : decode cX6_firstThin 39 = .ok (.iinc 2 1, 3) := by decide +kernel
theorem dX6_firstThin_42 : decode cX6_firstThin 42 = .ok (.goto (-32), 3) := by decide +kernel
theorem dX6_firstThin_45 : decode cX6_firstThin 45 = .ok (.iinc 1 1, 3) := by decide +kernel
theorem dX6_firstThin_48 : decode cX6_firstThin 48 = .ok (.goto (-46), 3) := by decide +kernel
theorem dX6_firstThin_51 : decode cX6_firstThin 51 = .ok (.bipush (-4), 2) := by decide +kernel
theorem dX6_firstThin_53 : decode cX6_firstThin 53 = .ok (.ireturn, 1) := by decide +kernel
set_option maxRecDepth 20000 in
theorem ggX6_tellAllAhead_J7_fill_53178 : GoodIn wsX6_tellAllAhead wsJ7_fill_53178 := goodIn_r _ [5] (by decide +kernel) (by decide +kernel)
set_option maxRecDepth 20000 in
theorem gX6_tellAllAhead_J7_fill_53178 : GoodIn wsX6_tellAllAhead (va_wsS RX6 94 yJ7_fill_53178 wsJ7_fill_53178) := goodIn_app (goodIn_of _ (by decide +kernel)) ggX6_tellAllAhead_J7_fill_53178
set_option maxRecDepth 20000 in
theorem ggX6_tellAllAhead_X2_tellAhead : GoodIn wsX6_tellAllAhead wsX2_tellAhead := goodIn_r _ [10, 11, 12, 13, 14, 9, 15, 16, 17, 18, 19, 20, 21, 22, 23, 27, 28, 29, 30, 31, 32, 33] (by decide +kernel) (by decide +kernel)
set_option maxRecDepth 20000 in
theorem gX6_tellAllAhead_X2_tellAhead : GoodIn wsX6_tellAllAhead (wsV RX6 100 RX2 yX2_tellAhead wsX2_tellAhead) := goodIn_app (goodIn_of _ (by decide +kernel)) ggX6_tellAllAhead_X2_tellAhead
theorem dX6_tellAllAhead_0 : decode cX6_tellAllAhead 0 = .ok (.aload_n 1, 1) := by decide +kernel
theorem dX6_tellAllAhead_1 : decode cX6_tellAllAhead 1 = .ok (.iconst 0, 1) := by decide +kernel
theorem dX6_tellAllAhead_2 : decode cX6_tellAllAhead 2 = .ok (.invokestatic 94, 3) := by decide +kernel
theorem dX6_tellAllAhead_5 : decode cX6_tellAllAhead 5 = .ok (.aload_n 0, 1) := by decide +kernel
theorem dX6_tellAllAhead_6 : decode cX6_tellAllAhead 6 = .ok (.getfield 11, 3) := by decide +kernel
theorem dX6_tellAllAhead_9 : decode cX6_tellAllAhead 9 = .ok (.astore_n 2, 1) := by decide +kernel
theorem dX6_tellAllAhead_10 : decode cX6_tellAllAhead 10 = .ok (.aload_n 2, 1) := by decide +kernel
theorem dX6_tellAllAhead_11 : decode cX6_tellAllAhead 11 = .ok (.arraylength, 1) := by decide +kernel
theorem dX6_tellAllAhead_12 : decode cX6_tellAllAhead 12 = .ok (.istore_n 3, 1) := by decide +kernel
theorem dX6_tellAllAhead_13 : decode cX6_tellAllAhead 13 = .ok (.iconst 0, 1) := by decide +kernel
theorem dX6_tellAllAhead_14 : decode cX6_tellAllAhead 14 = .ok (.istore 4, 2) := by decide +kernel
theorem dX6_tellAllAhead_16 : decode cX6_tellAllAhead 16 = .ok (.iload 4, 2) := by decide +kernel
theorem dX6_tellAllAhead_18 : decode cX6_tellAllAhead 18 = .ok (.iload_n 3, 1) := by decide +kernel
theorem dX6_tellAllAhead_19 : decode cX6_tellAllAhead 19 = .ok (.if_icmp .ge 21, 3) := by decide +kernel
theorem dX6_tellAllAhead_22 : decode cX6_tellAllAhead 22 = .ok (.aload_n 2, 1) := by decide +kernel
theorem dX6_tellAllAhead_23 : decode cX6_tellAllAhead 23 = .ok (.iload 4, 2) := by decide +kernel
theorem dX6_tellAllAhead_25 : decode cX6_tellAllAhead 25 = .ok (.aaload, 1) := by decide +kernel
theorem dX6_tellAllAhead_26 : decode cX6_tellAllAhead 26 = .ok (.astore 5, 2) := by decide +kernel
theorem dX6_tellAllAhead_28 : decode cX6_tellAllAhead 28 = .ok (.aload 5, 2) := by decide +kernel
theorem dX6_tellAllAhead_30 : decode cX6_tellAllAhead 30 = .ok (.aload_n 1, 1) := by decide +kernel
theorem dX6_tellAllAhead_31 : decode cX6_tellAllAhead 31 = .ok (.invokevirtual 100, 3) := by decide +kernel
theorem dX6_tellAllAhead_34 : decode cX6_tellAllAhead 34 = .ok (.iinc 4 1, 3) := by decide +kernel
theorem dX6_tellAllAhead_37 : decode cX6_tellAllAhead 37 = .ok (.goto (-21), 3) := by decide +kernel
theorem dX6_tellAllAhead_40 : decode cX6_tellAllAhead 40 = .ok (.return_, 1) := by decide +kernel
theorem dX7_init_0 : decode cX7_init 0 = .ok (.aload_n 0, 1) := by decide +kernel
theorem dX7_init_1 : decode cX7_init 1 = .ok (.invokespecial 1, 3) := by decide +kernel
theorem dX7_init_4 : decode cX7_init 4 = .ok (.return_, 1) := by decide +kernel
theorem dX7_fingersIn_0 : decode cX7_fingersIn 0 = .ok (.iload_n 1, 1) := by decide +kernel
theorem dX7_fingersIn_1 : decode cX7_fingersIn 1 = .ok (.ireturn, 1) := by decide +kernel
theorem dX7_melts_0 : decode cX7_melts 0 = .ok (.iconst 2, 1) := by decide +kernel
theorem dX7_melts_1 : decode cX7_melts 1 = .ok (.ireturn, 1) := by decide +kernel
theorem dX7_light_0 : decode cX7_light 0 = .ok (.bipush 9, 2) := by decide +kernel
theorem dX7_light_2 : decode cX7_light 2 = .ok (.ireturn, 1) := by decide +kernel
theorem dX7_tollWith_0 : decode cX7_tollWith 0 = .ok (.iconst 3, 1) := by decide +kernel
theorem dX7_tollWith_1 : decode cX7_tollWith 1 = .ok (.ireturn, 1) := by decide +kernel
theorem dX7_fail_0 : decode cX7_fail 0 = .ok (.new 7, 3) := by decide +kernel
theorem dX7_fail_3 : decode cX7_fail 3 = .ok (.dup, 1) := by decide +kernel
theorem dX7_fail_4 : decode cX7_fail 4 = .ok (.ldc 9, 2) := by decide +kernel
theorem dX7_fail_6 : decode cX7_fail 6 = .ok (.invokespecial 11, 3) := by decide +kernel
theorem dX7_fail_9 : decode cX7_fail 9 = .ok (.athrow, 1) := by decide +kernel
set_option maxRecDepth 20000 in
theorem ggX8_init_X10_init : GoodIn wsX8_init wsX10_init := goodIn_r _ [3, 4, 5, 6, 7, 8, 9] (by decide +kernel) (by decide +kernel)
set_option maxRecDepth 20000 in
theorem gX8_init_X10_init_n1 : GoodIn wsX8_init (wsX10_init) := ggX8_init_X10_init
theorem dX8_init_0 : decode cX8_init 0 = .ok (.aload_n 0, 1) := by decide +kernel
theorem dX8_init_1 : decode cX8_init 1 = .ok (.invokespecial 1, 3) := by decide +kernel
theorem dX8_init_4 : decode cX8_init 4 = .ok (.return_, 1) := by decide +kernel
set_option maxRecDepth 20000 in
theorem ggX8_fingersIn_X10_fingersIn : GoodIn wsX8_fingersIn wsX10_fingersIn := goodIn_r _ [6, 7, 8, 9, 10, 11, 12] (by decide +kernel) (by decide +kernel)
set_option maxRecDepth 20000 in
theorem gX8_fingersIn_X10_fingersIn_s7 : GoodIn wsX8_fingersIn (va_wsSU RX8 7 yX10_fingersIn wsX10_fingersIn) := goodIn_app (goodIn_of _ (by decide +kernel)) ggX8_fingersIn_X10_fingersIn
theorem dX8_fingersIn_0 : decode cX8_fingersIn 0 = .ok (.aload_n 0, 1) := by decide +kernel
theorem dX8_fingersIn_1 : decode cX8_fingersIn 1 = .ok (.iload_n 1, 1) := by decide +kernel
theorem dX8_fingersIn_2 : decode cX8_fingersIn 2 = .ok (.iload_n 2, 1) := by decide +kernel
theorem dX8_fingersIn_3 : decode cX8_fingersIn 3 = .ok (.invokespecial 7, 3) := by decide +kernel
theorem dX8_fingersIn_6 : decode cX8_fingersIn 6 = .ok (.iconst 1, 1) := by decide +kernel
theorem dX8_fingersIn_7 : decode cX8_fingersIn 7 = .ok (.isub, 1) := by decide +kernel
theorem dX8_fingersIn_8 : decode cX8_fingersIn 8 = .ok (.ireturn, 1) := by decide +kernel
set_option maxRecDepth 20000 in
theorem ggX8_melts_X10_melts : GoodIn wsX8_melts wsX10_melts := goodIn_r _ [6, 7, 8, 9, 10, 11, 12] (by decide +kernel) (by decide +kernel)
set_option maxRecDepth 20000 in
theorem gX8_melts_X10_melts_s11 : GoodIn wsX8_melts (va_wsSU RX8 11 yX10_melts wsX10_melts) := goodIn_app (goodIn_of _ (by decide +kernel)) ggX8_melts_X10_melts
theorem dX8_melts_0 : decode cX8_melts 0 = .ok (.iconst 2, 1) := by decide +kernel
theorem dX8_melts_1 : decode cX8_melts 1 = .ok (.aload_n 0, 1) := by decide +kernel
theorem dX8_melts_2 : decode cX8_melts 2 = .ok (.iload_n 1, 1) := by decide +kernel
theorem dX8_melts_3 : decode cX8_melts 3 = .ok (.invokespecial 11, 3) := by decide +kernel
theorem dX8_melts_6 : decode cX8_melts 6 = .ok (.imul, 1) := by decide +kernel
theorem dX8_melts_7 : decode cX8_melts 7 = .ok (.ireturn, 1) := by decide +kernel
set_option maxRecDepth 20000 in
theorem ggX8_tollWith_X10_tollWith : GoodIn wsX8_tollWith wsX10_tollWith := goodIn_r _ [6, 7, 8, 9, 10, 11, 12] (by decide +kernel) (by decide +kernel)
set_option maxRecDepth 20000 in
theorem gX8_tollWith_X10_tollWith_s15 : GoodIn wsX8_tollWith (va_wsSU RX8 15 yX10_tollWith wsX10_tollWith) := goodIn_app (goodIn_of _ (by decide +kernel)) ggX8_tollWith_X10_tollWith
theorem dX8_tollWith_0 : decode cX8_tollWith 0 = .ok (.aload_n 0, 1) := by decide +kernel
theorem dX8_tollWith_1 : decode cX8_tollWith 1 = .ok (.iload_n 1, 1) := by decide +kernel
theorem dX8_tollWith_2 : decode cX8_tollWith 2 = .ok (.invokespecial 15, 3) := by decide +kernel
theorem dX8_tollWith_5 : decode cX8_tollWith 5 = .ok (.iconst 4, 1) := by decide +kernel
theorem dX8_tollWith_6 : decode cX8_tollWith 6 = .ok (.iadd, 1) := by decide +kernel
theorem dX8_tollWith_7 : decode cX8_tollWith 7 = .ok (.ireturn, 1) := by decide +kernel
theorem dX8_fail_0 : decode cX8_fail 0 = .ok (.new 18, 3) := by decide +kernel
theorem dX8_fail_3 : decode cX8_fail 3 = .ok (.dup, 1) := by decide +kernel
theorem dX8_fail_4 : decode cX8_fail 4 = .ok (.ldc 20, 2) := by decide +kernel
theorem dX8_fail_6 : decode cX8_fail 6 = .ok (.invokespecial 22, 3) := by decide +kernel
theorem dX8_fail_9 : decode cX8_fail 9 = .ok (.athrow, 1) := by decide +kernel
theorem dX9_init_0 : decode cX9_init 0 = .ok (.aload_n 0, 1) := by decide +kernel
theorem dX9_init_1 : decode cX9_init 1 = .ok (.invokespecial 3, 3) := by decide +kernel
theorem dX9_init_4 : decode cX9_init 4 = .ok (.aload_n 0, 1) := by decide +kernel
theorem dX9_init_5 : decode cX9_init 5 = .ok (.bipush 100, 2) := by decide +kernel
theorem dX9_init_7 : decode cX9_init 7 = .ok (.newarray .int, 2) := by decide +kernel
theorem dX9_init_9 : decode cX9_init 9 = .ok (.putfield 9, 3) := by decide +kernel
theorem dX9_init_12 : decode cX9_init 12 = .ok (.return_, 1) := by decide +kernel
theorem dX9_takeLayer_0 : decode cX9_takeLayer 0 = .ok (.aload_n 0, 1) := by decide +kernel
theorem dX9_takeLayer_1 : decode cX9_takeLayer 1 = .ok (.iconst 1, 1) := by decide +kernel
theorem dX9_takeLayer_2 : decode cX9_takeLayer 2 = .ok (.putfield 15, 3) := by decide +kernel
theorem dX9_takeLayer_5 : decode cX9_takeLayer 5 = .ok (.aload_n 0, 1) := by decide +kernel
theorem dX9_takeLayer_6 : decode cX9_takeLayer 6 = .ok (.iload_n 1, 1) := by decide +kernel
theorem dX9_takeLayer_7 : decode cX9_takeLayer 7 = .ok (.putfield 19, 3) := by decide +kernel
theorem dX9_takeLayer_10 : decode cX9_takeLayer 10 = .ok (.aload_n 0, 1) := by decide +kernel
theorem dX9_takeLayer_11 : decode cX9_takeLayer 11 = .ok (.iload_n 2, 1) := by decide +kernel
theorem dX9_takeLayer_12 : decode cX9_takeLayer 12 = .ok (.putfield 22, 3) := by decide +kernel
theorem dX9_takeLayer_15 : decode cX9_takeLayer 15 = .ok (.return_, 1) := by decide +kernel
set_option maxRecDepth 20000 in
theorem ggX9_takeRow_J7_fill_53178 : GoodIn wsX9_takeRow wsJ7_fill_53178 := goodIn_r _ [8] (by decide +kernel) (by decide +kernel)
set_option maxRecDepth 20000 in
theorem gX9_takeRow_J7_fill_53178 : GoodIn wsX9_takeRow (va_wsS RX9 31 yJ7_fill_53178 wsJ7_fill_53178) := goodIn_app (goodIn_of _ (by decide +kernel)) ggX9_takeRow_J7_fill_53178
theorem dX9_takeRow_0 : decode cX9_takeRow 0 = .ok (.aload_n 0, 1) := by decide +kernel
theorem dX9_takeRow_1 : decode cX9_takeRow 1 = .ok (.iconst 2, 1) := by decide +kernel
theorem dX9_takeRow_2 : decode cX9_takeRow 2 = .ok (.putfield 15, 3) := by decide +kernel
theorem dX9_takeRow_5 : decode cX9_takeRow 5 = .ok (.aload_n 0, 1) := by decide +kernel
theorem dX9_takeRow_6 : decode cX9_takeRow 6 = .ok (.iload_n 1, 1) := by decide +kernel
theorem dX9_takeRow_7 : decode cX9_takeRow 7 = .ok (.putfield 25, 3) := by decide +kernel
theorem dX9_takeRow_10 : decode cX9_takeRow 10 = .ok (.aload_n 0, 1) := by decide +kernel
theorem dX9_takeRow_11 : decode cX9_takeRow 11 = .ok (.iload_n 2, 1) := by decide +kernel
theorem dX9_takeRow_12 : decode cX9_takeRow 12 = .ok (.putfield 28, 3) := by decide +kernel
theorem dX9_takeRow_15 : decode cX9_takeRow 15 = .ok (.aload_n 0, 1) := by decide +kernel
theorem dX9_takeRow_16 : decode cX9_takeRow 16 = .ok (.getfield 9, 3) := by decide +kernel
theorem dX9_takeRow_19 : decode cX9_takeRow 19 = .ok (.iconst 0, 1) := by decide +kernel
theorem dX9_takeRow_20 : decode cX9_takeRow 20 = .ok (.invokestatic 31, 3) := by decide +kernel
theorem dX9_takeRow_23 : decode cX9_takeRow 23 = .ok (.return_, 1) := by decide +kernel
theorem dX9_lacks_0 : decode cX9_lacks 0 = .ok (.aload_n 0, 1) := by decide +kernel
theorem dX9_lacks_1 : decode cX9_lacks 1 = .ok (.getfield 15, 3) := by decide +kernel
theorem dX9_lacks_4 : decode cX9_lacks 4 = .ok (.ifCond .ne 6, 3) := by decide +kernel
theorem dX9_lacks_7 : decode cX9_lacks 7 = .ok (.bipush (-11), 2) := by decide +kernel
theorem dX9_lacks_9 : decode cX9_lacks 9 = .ok (.ireturn, 1) := by decide +kernel
theorem dX9_lacks_10 : decode cX9_lacks 10 = .ok (.aload_n 0, 1) := by decide +kernel
theorem dX9_lacks_11 : decode cX9_lacks 11 = .ok (.getfield 15, 3) := by decide +kernel
theorem dX9_lacks_14 : decode cX9_lacks 14 = .ok (.iload_n 1, 1) := by decide +kernel
theorem dX9_lacks_15 : decode cX9_lacks 15 = .ok (.if_icmp .ne 7, 3) := by decide +kernel
theorem dX9_lacks_18 : decode cX9_lacks 18 = .ok (.iconst 0, 1) := by decide +kernel
theorem dX9_lacks_19 : decode cX9_lacks 19 = .ok (.goto 5, 3) := by decide +kernel
theorem dX9_lacks_22 : decode cX9_lacks 22 = .ok (.bipush (-12), 2) := by decide +kernel
theorem dX9_lacks_24 : decode cX9_lacks 24 = .ok (.ireturn, 1) := by decide +kernel
theorem dX9_hasPlace_0 : decode cX9_hasPlace 0 = .ok (.iload_n 1, 1) := by decide +kernel
theorem dX9_hasPlace_1 : decode cX9_hasPlace 1 = .ok (.ifCond .lt 24, 3) := by decide +kernel
theorem dX9_hasPlace_4 : decode cX9_hasPlace 4 = .ok (.iload_n 1, 1) := by decide +kernel
theorem dX9_hasPlace_5 : decode cX9_hasPlace 5 = .ok (.aload_n 0, 1) := by decide +kernel
theorem dX9_hasPlace_6 : decode cX9_hasPlace 6 = .ok (.getfield 28, 3) := by decide +kernel
theorem dX9_hasPlace_9 : decode cX9_hasPlace 9 = .ok (.if_icmp .ge 16, 3) := by decide +kernel
theorem dX9_hasPlace_12 : decode cX9_hasPlace 12 = .ok (.iload_n 1, 1) := by decide +kernel
theorem dX9_hasPlace_13 : decode cX9_hasPlace 13 = .ok (.aload_n 0, 1) := by decide +kernel
theorem dX9_hasPlace_14 : decode cX9_hasPlace 14 = .ok (.getfield 9, 3) := by decide +kernel
theorem dX9_hasPlace_17 : decode cX9_hasPlace 17 = .ok (.arraylength, 1) := by decide +kernel
theorem dX9_hasPlace_18 : decode cX9_hasPlace 18 = .ok (.if_icmp .ge 7, 3) := by decide +kernel
theorem dX9_hasPlace_21 : decode cX9_hasPlace 21 = .ok (.iconst 1, 1) := by decide +kernel
theorem dX9_hasPlace_22 : decode cX9_hasPlace 22 = .ok (.goto 4, 3) := by decide +kernel
theorem dX9_hasPlace_25 : decode cX9_hasPlace 25 = .ok (.iconst 0, 1) := by decide +kernel
theorem dX9_hasPlace_26 : decode cX9_hasPlace 26 = .ok (.ireturn, 1) := by decide +kernel
theorem dX9_hasStretch_0 : decode cX9_hasStretch 0 = .ok (.iload_n 1, 1) := by decide +kernel
theorem dX9_hasStretch_1 : decode cX9_hasStretch 1 = .ok (.ifCond .lt 29, 3) := by decide +kernel
theorem dX9_hasStretch_4 : decode cX9_hasStretch 4 = .ok (.iload_n 1, 1) := by decide +kernel
theorem dX9_hasStretch_5 : decode cX9_hasStretch 5 = .ok (.aload_n 0, 1) := by decide +kernel
theorem dX9_hasStretch_6 : decode cX9_hasStretch 6 = .ok (.getfield 28, 3) := by decide +kernel
theorem dX9_hasStretch_9 : decode cX9_hasStretch 9 = .ok (.if_icmp .gt 21, 3) := by decide +kernel
theorem dX9_hasStretch_12 : decode cX9_hasStretch 12 = .ok (.iload_n 2, 1) := by decide +kernel
theorem dX9_hasStretch_13 : decode cX9_hasStretch 13 = .ok (.ifCond .lt 17, 3) := by decide +kernel
theorem dX9_hasStretch_16 : decode cX9_hasStretch 16 = .ok (.iload_n 2, 1) := by decide +kernel
theorem dX9_hasStretch_17 : decode cX9_hasStretch 17 = .ok (.aload_n 0, 1) := by decide +kernel
theorem dX9_hasStretch_18 : decode cX9_hasStretch 18 = .ok (.getfield 28, 3) := by decide +kernel
theorem dX9_hasStretch_21 : decode cX9_hasStretch 21 = .ok (.iload_n 1, 1) := by decide +kernel
theorem dX9_hasStretch_22 : decode cX9_hasStretch 22 = .ok (.isub, 1) := by decide +kernel
theorem dX9_hasStretch_23 : decode cX9_hasStretch 23 = .ok (.if_icmp .gt 7, 3) := by decide +kernel
theorem dX9_hasStretch_26 : decode cX9_hasStretch 26 = .ok (.iconst 1, 1) := by decide +kernel
theorem dX9_hasStretch_27 : decode cX9_hasStretch 27 = .ok (.goto 4, 3) := by decide +kernel
theorem dX9_hasStretch_30 : decode cX9_hasStretch 30 = .ok (.iconst 0, 1) := by decide +kernel
theorem dX9_hasStretch_31 : decode cX9_hasStretch 31 = .ok (.ireturn, 1) := by decide +kernel
set_option maxRecDepth 20000 in
theorem ggX9_valueAt_X9_hasPlace : GoodIn wsX9_valueAt wsX9_hasPlace := goodIn_r _ [6, 7, 1, 8, 9, 10, 11, 12, 13] (by decide +kernel) (by decide +kernel)
set_option maxRecDepth 20000 in
theorem gX9_valueAt_X9_hasPlace : GoodIn wsX9_valueAt (wsV RX9 37 RX9 yX9_hasPlace wsX9_hasPlace) := goodIn_app (goodIn_of _ (by decide +kernel)) ggX9_valueAt_X9_hasPlace
theorem dX9_valueAt_0 : decode cX9_valueAt 0 = .ok (.aload_n 0, 1) := by decide +kernel
theorem dX9_valueAt_1 : decode cX9_valueAt 1 = .ok (.iload_n 1, 1) := by decide +kernel
theorem dX9_valueAt_2 : decode cX9_valueAt 2 = .ok (.invokevirtual 37, 3) := by decide +kernel
theorem dX9_valueAt_5 : decode cX9_valueAt 5 = .ok (.ifCond .eq 12, 3) := by decide +kernel
theorem dX9_valueAt_8 : decode cX9_valueAt 8 = .ok (.aload_n 0, 1) := by decide +kernel
theorem dX9_valueAt_9 : decode cX9_valueAt 9 = .ok (.getfield 9, 3) := by decide +kernel
theorem dX9_valueAt_12 : decode cX9_valueAt 12 = .ok (.iload_n 1, 1) := by decide +kernel
theorem dX9_valueAt_13 : decode cX9_valueAt 13 = .ok (.iaload, 1) := by decide +kernel
theorem dX9_valueAt_14 : decode cX9_valueAt 14 = .ok (.goto 4, 3) := by decide +kernel
theorem dX9_valueAt_17 : decode cX9_valueAt 17 = .ok (.iconst 0, 1) := by decide +kernel
theorem dX9_valueAt_18 : decode cX9_valueAt 18 = .ok (.ireturn, 1) := by decide +kernel
set_option maxRecDepth 20000 in
theorem ggX9_digitAt_X9_valueAt : GoodIn wsX9_digitAt wsX9_valueAt := goodIn_r _ [5, 6, 7, 8, 9, 4, 10, 11, 15, 16, 17, 18, 19, 20] (by decide +kernel) (by decide +kernel)
set_option maxRecDepth 20000 in
theorem gX9_digitAt_X9_valueAt : GoodIn wsX9_digitAt (wsV RX9 41 RX9 yX9_valueAt wsX9_valueAt) := goodIn_app (goodIn_of _ (by decide +kernel)) ggX9_digitAt_X9_valueAt
set_option maxRecDepth 20000 in
theorem ggX9_digitAt_X11_within : GoodIn wsX9_digitAt wsX11_within := goodIn_r _ [14] (by decide +kernel) (by decide +kernel)
set_option maxRecDepth 20000 in
theorem gX9_digitAt_X11_within_n45 : GoodIn wsX9_digitAt (wsX11_within) := ggX9_digitAt_X11_within
theorem dX9_digitAt_0 : decode cX9_digitAt 0 = .ok (.aload_n 0, 1) := by decide +kernel
theorem dX9_digitAt_1 : decode cX9_digitAt 1 = .ok (.iload_n 1, 1) := by decide +kernel
theorem dX9_digitAt_2 : decode cX9_digitAt 2 = .ok (.invokevirtual 41, 3) := by decide +kernel
theorem dX9_digitAt_5 : decode cX9_digitAt 5 = .ok (.istore_n 2, 1) := by decide +kernel
theorem dX9_digitAt_6 : decode cX9_digitAt 6 = .ok (.iload_n 2, 1) := by decide +kernel
theorem dX9_digitAt_7 : decode cX9_digitAt 7 = .ok (.bipush 48, 2) := by decide +kernel
theorem dX9_digitAt_9 : decode cX9_digitAt 9 = .ok (.bipush 57, 2) := by decide +kernel
theorem dX9_digitAt_11 : decode cX9_digitAt 11 = .ok (.invokestatic 45, 3) := by decide +kernel
theorem dX9_digitAt_14 : decode cX9_digitAt 14 = .ok (.ifCond .eq 10, 3) := by decide +kernel
theorem dX9_digitAt_17 : decode cX9_digitAt 17 = .ok (.iload_n 2, 1) := by decide +kernel
theorem dX9_digitAt_18 : decode cX9_digitAt 18 = .ok (.bipush 48, 2) := by decide +kernel
theorem dX9_digitAt_20 : decode cX9_digitAt 20 = .ok (.isub, 1) := by decide +kernel
theorem dX9_digitAt_21 : decode cX9_digitAt 21 = .ok (.goto 4, 3) := by decide +kernel
theorem dX9_digitAt_24 : decode cX9_digitAt 24 = .ok (.iconst (-1), 1) := by decide +kernel
theorem dX9_digitAt_25 : decode cX9_digitAt 25 = .ok (.ireturn, 1) := by decide +kernel
theorem dX9_lowestBits_0 : decode cX9_lowestBits 0 = .ok (.aload_n 0, 1) := by decide +kernel
theorem dX9_lowestBits_1 : decode cX9_lowestBits 1 = .ok (.getfield 25, 3) := by decide +kernel
theorem dX9_lowestBits_4 : decode cX9_lowestBits 4 = .ok (.lookupswitch 34 #[(0, 28), (1, 31)], 28) := by decide +kernel
theorem dX9_lowestBits_32 : decode cX9_lowestBits 32 = .ok (.iload_n 1, 1) := by decide +kernel
theorem dX9_lowestBits_33 : decode cX9_lowestBits 33 = .ok (.i2b, 1) := by decide +kernel
theorem dX9_lowestBits_34 : decode cX9_lowestBits 34 = .ok (.ireturn, 1) := by decide +kernel
theorem dX9_lowestBits_35 : decode cX9_lowestBits 35 = .ok (.iload_n 1, 1) := by decide +kernel
theorem dX9_lowestBits_36 : decode cX9_lowestBits 36 = .ok (.i2s, 1) := by decide +kernel
theorem dX9_lowestBits_37 : decode cX9_lowestBits 37 = .ok (.ireturn, 1) := by decide +kernel
theorem dX9_lowestBits_38 : decode cX9_lowestBits 38 = .ok (.iload_n 1, 1) := by decide +kernel
theorem dX9_lowestBits_39 : decode cX9_lowestBits 39 = .ok (.ireturn, 1) := by decide +kernel
theorem dX9_leastNumber_0 : decode cX9_leastNumber 0 = .ok (.aload_n 0, 1) := by decide +kernel
theorem dX9_leastNumber_1 : decode cX9_leastNumber 1 = .ok (.getfield 25, 3) := by decide +kernel
theorem dX9_leastNumber_4 : decode cX9_leastNumber 4 = .ok (.lookupswitch 35 #[(0, 28), (1, 31)], 28) := by decide +kernel
theorem dX9_leastNumber_32 : decode cX9_leastNumber 32 = .ok (.bipush (-128), 2) := by decide +kernel
theorem dX9_leastNumber_34 : decode cX9_leastNumber 34 = .ok (.ireturn, 1) := by decide +kernel
theorem dX9_leastNumber_35 : decode cX9_leastNumber 35 = .ok (.sipush (-32768), 3) := by decide +kernel
theorem dX9_leastNumber_38 : decode cX9_leastNumber 38 = .ok (.ireturn, 1) := by decide +kernel
theorem dX9_leastNumber_39 : decode cX9_leastNumber 39 = .ok (.ldc 49, 2) := by decide +kernel
theorem dX9_leastNumber_41 : decode cX9_leastNumber 41 = .ok (.ireturn, 1) := by decide +kernel
set_option maxRecDepth 20000 in
theorem ggX10_init_X7_init : GoodIn wsX10_init wsX7_init := goodIn_r _ [3, 4, 5, 6] (by decide +kernel) (by decide +kernel)
set_option maxRecDepth 20000 in
theorem gX10_init_X7_init_n1 : GoodIn wsX10_init (wsX7_init) := ggX10_init_X7_init
theorem dX10_init_0 : decode cX10_init 0 = .ok (.aload_n 0, 1) := by decide +kernel
theorem dX10_init_1 : decode cX10_init 1 = .ok (.invokespecial 1, 3) := by decide +kernel
theorem dX10_init_4 : decode cX10_init 4 = .ok (.return_, 1) := by decide +kernel
set_option maxRecDepth 20000 in
theorem ggX10_fingersIn_X7_fingersIn : GoodIn wsX10_fingersIn wsX7_fingersIn := goodIn_r _ [6] (by decide +kernel) (by decide +kernel)
set_option maxRecDepth 20000 in
theorem gX10_fingersIn_X7_fingersIn_s7 : GoodIn wsX10_fingersIn (va_wsSU RX10 7 yX7_fingersIn wsX7_fingersIn) := goodIn_app (goodIn_of _ (by decide +kernel)) ggX10_fingersIn_X7_fingersIn
theorem dX10_fingersIn_0 : decode cX10_fingersIn 0 = .ok (.iconst 2, 1) := by decide +kernel
theorem dX10_fingersIn_1 : decode cX10_fingersIn 1 = .ok (.aload_n 0, 1) := by decide +kernel
theorem dX10_fingersIn_2 : decode cX10_fingersIn 2 = .ok (.iload_n 1, 1) := by decide +kernel
theorem dX10_fingersIn_3 : decode cX10_fingersIn 3 = .ok (.iload_n 2, 1) := by decide +kernel
theorem dX10_fingersIn_4 : decode cX10_fingersIn 4 = .ok (.invokespecial 7, 3) := by decide +kernel
theorem dX10_fingersIn_7 : decode cX10_fingersIn 7 = .ok (.imul, 1) := by decide +kernel
theorem dX10_fingersIn_8 : decode cX10_fingersIn 8 = .ok (.ireturn, 1) := by decide +kernel
set_option maxRecDepth 20000 in
theorem ggX10_melts_X7_melts : GoodIn wsX10_melts wsX7_melts := goodIn_r _ [6] (by decide +kernel) (by decide +kernel)
set_option maxRecDepth 20000 in
theorem gX10_melts_X7_melts_s11 : GoodIn wsX10_melts (va_wsSU RX10 11 yX7_melts wsX7_melts) := goodIn_app (goodIn_of _ (by decide +kernel)) ggX10_melts_X7_melts
theorem dX10_melts_0 : decode cX10_melts 0 = .ok (.aload_n 0, 1) := by decide +kernel
theorem dX10_melts_1 : decode cX10_melts 1 = .ok (.iload_n 1, 1) := by decide +kernel
theorem dX10_melts_2 : decode cX10_melts 2 = .ok (.invokespecial 11, 3) := by decide +kernel
theorem dX10_melts_5 : decode cX10_melts 5 = .ok (.iconst 1, 1) := by decide +kernel
theorem dX10_melts_6 : decode cX10_melts 6 = .ok (.iadd, 1) := by decide +kernel
theorem dX10_melts_7 : decode cX10_melts 7 = .ok (.ireturn, 1) := by decide +kernel
set_option maxRecDepth 20000 in
theorem ggX10_light_X7_light : GoodIn wsX10_light wsX7_light := goodIn_r _ [6] (by decide +kernel) (by decide +kernel)
set_option maxRecDepth 20000 in
theorem gX10_light_X7_light_s15 : GoodIn wsX10_light (va_wsSU RX10 15 yX7_light wsX7_light) := goodIn_app (goodIn_of _ (by decide +kernel)) ggX10_light_X7_light
theorem dX10_light_0 : decode cX10_light 0 = .ok (.aload_n 0, 1) := by decide +kernel
theorem dX10_light_1 : decode cX10_light 1 = .ok (.iload_n 1, 1) := by decide +kernel
theorem dX10_light_2 : decode cX10_light 2 = .ok (.invokespecial 15, 3) := by decide +kernel
theorem dX10_light_5 : decode cX10_light 5 = .ok (.iconst 3, 1) := by decide +kernel
theorem dX10_light_6 : decode cX10_light 6 = .ok (.idiv, 1) := by decide +kernel
theorem dX10_light_7 : decode cX10_light 7 = .ok (.ireturn, 1) := by decide +kernel
set_option maxRecDepth 20000 in
theorem ggX10_tollWith_X7_tollWith : GoodIn wsX10_tollWith wsX7_tollWith := goodIn_r _ [6] (by decide +kernel) (by decide +kernel)
set_option maxRecDepth 20000 in
theorem gX10_tollWith_X7_tollWith_s18 : GoodIn wsX10_tollWith (va_wsSU RX10 18 yX7_tollWith wsX7_tollWith) := goodIn_app (goodIn_of _ (by decide +kernel)) ggX10_tollWith_X7_tollWith
theorem dX10_tollWith_0 : decode cX10_tollWith 0 = .ok (.aload_n 0, 1) := by decide +kernel
theorem dX10_tollWith_1 : decode cX10_tollWith 1 = .ok (.iload_n 1, 1) := by decide +kernel
theorem dX10_tollWith_2 : decode cX10_tollWith 2 = .ok (.invokespecial 18, 3) := by decide +kernel
theorem dX10_tollWith_5 : decode cX10_tollWith 5 = .ok (.iconst 1, 1) := by decide +kernel
theorem dX10_tollWith_6 : decode cX10_tollWith 6 = .ok (.isub, 1) := by decide +kernel
theorem dX10_tollWith_7 : decode cX10_tollWith 7 = .ok (.ireturn, 1) := by decide +kernel
